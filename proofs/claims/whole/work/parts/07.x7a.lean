section X7RUN_x7a
variable {p : Program} {l : Launch} {e : Env} {s : State} {m : MethodId} {args : Array Value} {below : List Frame} {meth : Method} {c : Code} {D : va_G} {cI : ClassId} {q : Nat → Nat}
-- ===== ExactFilterModel.at
abbrev rX7_at : Room := { frames := 0, cells := 0, slots := 0, locals := 0 }
def wp_X7_at  (x0 : Int32) (x1 : Int32) (x2 : Int32) (post : Int32 → Prop) : Prop := post (((4 * x0) + (2 * x1)) + x2) 
set_option maxHeartbeats 4000000 in
set_option maxRecDepth 100000 in
theorem m_X7_at (l : Launch) (x0 : Int32) (x1 : Int32) (x2 : Int32) (post : Int32 → Prop) (hw : wp_X7_at  x0 x1 x2 post) : Met l yX7_at (wu yX7_at cX7_at 3 (some .int)) rX7_at (va_Pc [.int x0, .int x1, .int x2] (fun _ => True)) (va_Qi (S := Unit) (fun r _ => post r) (fun _ _ => True) (fun _ => False)) 0 0 (fun _ => False) := by
  refine Met.ofW (cc := cX7_at) (maxL := 3) (ret := (some .int)) (by decide) rfl ?_
  intro p e s m args below meth c s₁ B hml hv
  obtain ⟨rfl, -⟩ := hv
  have hx := B.exec
  have hb := B.bytes
  have hr := B.returns
  have hlocks := B.notSynchronized
  have hS : va_S (fun _ => False) s.heap s.heap [] := va_S.rf
  have hP : True := trivial
  have hl := lv_entry ([.int x0, .int x1, .int x2]) (n := 3) (Nat.le_of_ble_eq_true rfl)
  rw [lg_entry_eq]
  generalize (lg_sl ([.int x0, .int x1, .int x2]) ++ List.replicate (3 - (lg_sl ([.int x0, .int x1, .int x2])).length) Slot.unset).toArray = ls at hl ⊢
  have hl : lv_has ls 3 [(0, .int x0), (1, .int x1), (2, .int x2)] := hl
  unfold wp_X7_at at hw
  refine lv_iconst (v := 4) hx hb dX7_at_0 (by decide) ?_
  refine lv_iload_n hx hb dX7_at_1 rfl (lv_at hl 0 rfl) ?_
  refine lv_imul hx hb dX7_at_2 ?_
  refine lv_iconst (v := 2) hx hb dX7_at_3 (by decide) ?_
  refine lv_iload_n hx hb dX7_at_4 rfl (lv_at hl 1 rfl) ?_
  refine lv_imul hx hb dX7_at_5 ?_
  refine lv_iadd hx hb dX7_at_6 ?_
  refine lv_iload_n hx hb dX7_at_7 rfl (lv_at hl 2 rfl) ?_
  refine lv_iadd hx hb dX7_at_8 ?_
  exact W.iret (v := (((4 * x0) + (2 * x1)) + x2)) hx hb hr (fun t ht hW => ⟨⟨(((4 * x0) + (2 * x1)) + x2), (), rfl, hw, trivial⟩, hS.F ht⟩) hS.2.2 dX7_at_9 hlocks
-- ===== ExactFilterModel.digit
abbrev rX7_digit : Room := { frames := 0, cells := 0, slots := 0, locals := 0 }
def wj_X7_digit_26 (pi : Nat → Int32) (le : Nat → Int32) (post : Int32 → Prop)  (s0 : Int32) : Prop := post s0 
def wp_X7_digit (pi : Nat → Int32) (le : Nat → Int32) (x1 : Int32) (x2 : Int32) (post : Int32 → Prop) : Prop := vp_in x1 64 ∧ ((le (x1 : Int32).toNatClampNeg) ≤ x2 → wj_X7_digit_26 pi le post  0) ∧ (¬ (le (x1 : Int32).toNatClampNeg) ≤ x2 → vp_in ((1500 * x1) + x2) 96000 ∧ wj_X7_digit_26 pi le post  (pi (((1500 * x1) + x2) : Int32).toNatClampNeg))
set_option maxHeartbeats 4000000 in
set_option maxRecDepth 100000 in
theorem mj_X7_digit_26 (C : C7 p s m args meth c D cI q cX7_digit 3 (some .int)) (th : Int32) (sz : Int32) (sd : Int32) (ss : Int32) (pr : Int32) (me : Int32) (ab : Nat → Int32) (be : Nat → Int32) (pi : Nat → Int32) (le : Nat → Int32) (sg : Nat → Int32) (wo : Nat → Int32) (post : Int32 → Prop) 
    
    (s0 : Int32) (H : Heap) (locs : List Loc) (ls : Array Slot) (hw : wj_X7_digit_26 pi le post  s0) (hP : va_P D vwCl (w7 cI q th sz sd ss pr me ab be pi le sg wo) H) (hS : va_S (A7 q) s.heap H locs) (hl : lv_has ls 3 []) : W p l e rX7_digit s m args below meth c H locs 0 0 (MQ below (va_Qi (S := Unit) (fun r u => post r ) (fun u t => va_P D vwCl (w7 cI q th sz sd ss pr me ab be pi le sg wo) t.heap) (A7 q)) args s 0 0 (A7 q)) (F0 m 26 ls [.int s0]) := by
  obtain ⟨hx, hb, hr, hml, hown, hg, hlocks, hK, hap⟩ := id C
  unfold wj_X7_digit_26 at hw
  exact W.iret (v := s0) hx hb hr (fun t ht hW => ⟨⟨s0, (), rfl, hw, by show va_P D vwCl _ t.heap; rw [ht]; exact hP⟩, hS.F ht⟩) hS.2.2 dX7_digit_26 hlocks
set_option maxHeartbeats 4000000 in
set_option maxRecDepth 100000 in
theorem m_X7_digit (l : Launch) (D : va_G) (cI : ClassId) (q : Nat → Nat) (th : Int32) (sz : Int32) (sd : Int32) (ss : Int32) (pr : Int32) (me : Int32) (ab : Nat → Int32) (be : Nat → Int32) (pi : Nat → Int32) (le : Nat → Int32) (sg : Nat → Int32) (wo : Nat → Int32) (x1 : Int32) (x2 : Int32) (post : Int32 → Prop) (hw : wp_X7_digit pi le x1 x2 post) : Met l yX7_digit (wu yX7_digit cX7_digit 3 (some .int)) rX7_digit (va_Pc [.ref (q 0), .int x1, .int x2] (fun U => va_P D vwCl (w7 cI q th sz sd ss pr me ab be pi le sg wo) U.heap ∧ K7 D cI q U)) (va_Qi (S := Unit) (fun r u => post r ) (fun u t => va_P D vwCl (w7 cI q th sz sd ss pr me ab be pi le sg wo) t.heap) (A7 q)) 0 0 (A7 q) := by
  refine Met.ofW (cc := cX7_digit) (maxL := 3) (ret := (some .int)) (by decide) rfl ?_
  intro p e s m args below meth c s₁ B hml hv
  obtain ⟨rfl, hP, hK, hap⟩ := hv
  have C : C7 p s m _ meth c D cI q cX7_digit 3 (some .int) := ⟨B.exec, B.bytes, B.returns, hml, findClass_of_methodNamed B.named, x_hg (atoms_spec (ws := wu yX7_digit cX7_digit 3 (some .int)) B.pre), B.notSynchronized, hK, hap⟩
  obtain ⟨hx, hb, hr, hml, hown, hg, hlocks, hK, hap⟩ := id C
  have hS : va_S (A7 q) s.heap s.heap [] := va_S.rf
  have hl := lv_entry ([.ref (q 0), .int x1, .int x2]) (n := 3) (Nat.le_of_ble_eq_true rfl)
  rw [lg_entry_eq]
  generalize (lg_sl ([.ref (q 0), .int x1, .int x2]) ++ List.replicate (3 - (lg_sl ([.ref (q 0), .int x1, .int x2])).length) Slot.unset).toArray = ls at hl ⊢
  have hl : lv_has ls 3 [(0, .ref (q 0)), (1, .int x1), (2, .int x2)] := hl
  unfold wp_X7_digit at hw
  refine lv_iload_n hx hb dX7_digit_0 rfl (lv_at hl 2 rfl) ?_
  refine lv_aload_n hx hb dX7_digit_1 rfl (lv_at hl 0 rfl) ?_
  refine va_get (D := D) (ci := 7) (v := .ref (q 4)) (C := RX7) (T := TX7) (N := 12) hx hb hg ku_X7 hown hK hP 0 rfl rfl 9 (by decide) (hg _ kf_X7_40) (fun _ h9 => h9) rfl dX7_digit_2 ?_
  refine lv_iload_n hx hb dX7_digit_5 rfl (lv_at hl 1 rfl) ?_
  obtain ⟨hi6, hw⟩ := hw
  refine va_iald (D := D) hx hb hK hP 4 0 rfl rfl hi6 dX7_digit_6 ?_
  refine lv_icmp_ge (tgt := 25) hx hb dX7_digit_7 (by decide) (fun hc7 => ?_) (fun hc7 => ?_)
  · have hw := hw.1 hc7
    refine lv_iconst (v := 0) hx hb dX7_digit_25 (by decide) ?_
    exact mj_X7_digit_26 C th sz sd ss pr me ab be pi le sg wo post  _ _ _ _ hw hP hS (lv_sub hl [] rfl)
  · have hw := hw.2 hc7
    refine lv_aload_n hx hb dX7_digit_10 rfl (lv_at hl 0 rfl) ?_
    refine va_get (D := D) (ci := 7) (v := .ref (q 3)) (C := RX7) (T := TX7) (N := 12) hx hb hg ku_X7 hown hK hP 0 rfl rfl 8 (by decide) (hg _ kf_X7_37) (fun _ h9 => h9) rfl dX7_digit_11 ?_
    refine lv_sipush (v := 1500) hx hb dX7_digit_14 (by decide) ?_
    refine lv_iload_n hx hb dX7_digit_17 rfl (lv_at hl 1 rfl) ?_
    refine lv_imul hx hb dX7_digit_18 ?_
    refine lv_iload_n hx hb dX7_digit_19 rfl (lv_at hl 2 rfl) ?_
    refine lv_iadd hx hb dX7_digit_20 ?_
    obtain ⟨hi21, hw⟩ := hw
    refine va_iald (D := D) hx hb hK hP 3 0 rfl rfl hi21 dX7_digit_21 ?_
    refine lv_goto (tgt := 26) hx hb dX7_digit_22 (by decide) ?_
    exact mj_X7_digit_26 C th sz sd ss pr me ab be pi le sg wo post  _ _ _ _ hw hP hS (lv_sub hl [] rfl)
-- ===== ExactFilterModel.take
abbrev rX7_take : Room := { frames := 0, cells := 0, slots := 0, locals := 0 }
def wl_X7_take_2 (wo : Nat → Int32) (post : (Nat → Int32) → (Nat → Int32) → Prop) (K23 : (Nat → Int32) → (Nat → Int32) → Int32 → Int32 → Prop) : Nat → (Nat → Int32) → (Nat → Int32) → Int32 → Int32 → Prop
  | 0, _, _, _, _ => False
  | n + 1, pi, le, x1, x3 => (x3 ≤ 0 → K23 pi le x1 x3) ∧ (¬ x3 ≤ 0 → vp_in (x3 - 1) 3010 ∧ (¬ (wo ((x3 - 1) : Int32).toNatClampNeg) = 0 → K23 pi le x1 x3) ∧ ((wo ((x3 - 1) : Int32).toNatClampNeg) = 0 → ∀ (x3_17 : Int32), x3_17 = x3 + (-1) → wl_X7_take_2 wo post K23 n pi le x1 x3_17))
def wl_X7_take_26 (wo : Nat → Int32) (post : (Nat → Int32) → (Nat → Int32) → Prop) (K58 : (Nat → Int32) → (Nat → Int32) → Int32 → Int32 → Prop) : Nat → (Nat → Int32) → (Nat → Int32) → Int32 → Int32 → Int32 → Prop
  | 0, _, _, _, _, _ => False
  | n + 1, pi, le, x1, x3, x4 => (x3 ≤ x4 → K58 pi le x1 x3) ∧ (¬ x3 ≤ x4 → vp_in x4 3010 ∧ vp_in ((1500 * x1) + x4) 96000 ∧ ∀ (x4_52 : Int32), x4_52 = x4 + 1 → wl_X7_take_26 wo post K58 n (upd pi (((1500 * x1) + x4) : Int32).toNatClampNeg (wo (x4 : Int32).toNatClampNeg)) le x1 x3 x4_52)
def wj_X7_take_23 (wo : Nat → Int32) (post : (Nat → Int32) → (Nat → Int32) → Prop)  (pi : Nat → Int32) (le : Nat → Int32) (x1 : Int32) (x3 : Int32) : Prop := ∃ n26 : Nat, wl_X7_take_26 wo post (fun (pi : Nat → Int32) (le : Nat → Int32) (x1 : Int32) (x3 : Int32) => vp_in x1 64 ∧ post pi (upd le (x1 : Int32).toNatClampNeg x3)) n26 pi le x1 x3 0
def wp_X7_take (pi : Nat → Int32) (le : Nat → Int32) (wo : Nat → Int32) (x1 : Int32) (x2 : Int32) (post : (Nat → Int32) → (Nat → Int32) → Prop) : Prop := ∃ n2 : Nat, wl_X7_take_2 wo post (fun (pi : Nat → Int32) (le : Nat → Int32) (x1 : Int32) (x3 : Int32) => wj_X7_take_23 wo post  pi le x1 x3) n2 pi le x1 x2
set_option maxHeartbeats 4000000 in
set_option maxRecDepth 100000 in
theorem ml_X7_take_2 (C : C7 p s m args meth c D cI q cX7_take 5 none) (th : Int32) (sz : Int32) (sd : Int32) (ss : Int32) (pr : Int32) (me : Int32) (ab : Nat → Int32) (be : Nat → Int32) (sg : Nat → Int32) (wo : Nat → Int32) (post : (Nat → Int32) → (Nat → Int32) → Prop) (K23 : (Nat → Int32) → (Nat → Int32) → Int32 → Int32 → Prop)
    (hK23 : (∀ (pi : Nat → Int32) (le : Nat → Int32) (x1 : Int32) (x3 : Int32) (H : Heap) (locs : List Loc) (ls : Array Slot), K23 pi le x1 x3 → va_P D vwCl (w7 cI q th sz sd ss pr me ab be pi le sg wo) H → va_S (A7 q) s.heap H locs → lv_has ls 5 [(0, .ref (q 0)), (1, .int x1), (3, .int x3)] → W p l e rX7_take s m args below meth c H locs 0 0 (MQ below (va_Qv (S := (Nat → Int32) × (Nat → Int32)) (fun u => post u.1 u.2) (fun u t => va_P D vwCl (w7 cI q th sz sd ss pr me ab be u.1 u.2 sg wo) t.heap) (A7 q)) args s 0 0 (A7 q)) (F0 m 23 ls []))) :
    ∀ (n : Nat) (pi : Nat → Int32) (le : Nat → Int32) (x1 : Int32) (x3 : Int32) (H : Heap) (locs : List Loc) (ls : Array Slot), wl_X7_take_2 wo post K23 n pi le x1 x3 → va_P D vwCl (w7 cI q th sz sd ss pr me ab be pi le sg wo) H → va_S (A7 q) s.heap H locs → lv_has ls 5 [(0, .ref (q 0)), (1, .int x1), (3, .int x3)] → W p l e rX7_take s m args below meth c H locs 0 0 (MQ below (va_Qv (S := (Nat → Int32) × (Nat → Int32)) (fun u => post u.1 u.2) (fun u t => va_P D vwCl (w7 cI q th sz sd ss pr me ab be u.1 u.2 sg wo) t.heap) (A7 q)) args s 0 0 (A7 q)) (F0 m 2 ls []) := by
  obtain ⟨hx, hb, hr, hml, hown, hg, hlocks, hK, hap⟩ := id C
  intro n
  induction n with
  | zero => intro pi le x1 x3 H locs ls hw; exact absurd hw id
  | succ n ih =>
    intro pi le x1 x3 H locs ls hw hP hS hl
    refine lv_iload_n hx hb dX7_take_2 rfl (lv_at hl 2 rfl) ?_
    refine lv_if_le (tgt := 23) hx hb dX7_take_3 (by decide) (fun hc3 => ?_) (fun hc3 => ?_)
    · have hw := hw.1 hc3
      exact hK23 _ _ _ _ _ _ _ hw hP hS (lv_sub hl [0, 1, 2] rfl)
    · have hw := hw.2 hc3
      refine lv_aload_n hx hb dX7_take_6 rfl (lv_at hl 0 rfl) ?_
      refine va_get (D := D) (ci := 7) (v := .ref (q 6)) (C := RX7) (T := TX7) (N := 12) hx hb hg ku_X7 hown hK hP 0 rfl rfl 11 (by decide) (hg _ kf_X7_46) (fun _ h9 => h9) rfl dX7_take_7 ?_
      refine lv_iload_n hx hb dX7_take_10 rfl (lv_at hl 2 rfl) ?_
      refine lv_iconst (v := 1) hx hb dX7_take_11 (by decide) ?_
      refine lv_isub hx hb dX7_take_12 ?_
      obtain ⟨hi13, hw⟩ := hw
      refine va_iald (D := D) hx hb hK hP 6 0 rfl rfl hi13 dX7_take_13 ?_
      refine lv_if_ne (tgt := 23) hx hb dX7_take_14 (by decide) (fun hc14 => ?_) (fun hc14 => ?_)
      · have hw := hw.1 hc14
        exact hK23 _ _ _ _ _ _ _ hw hP hS (lv_sub hl [0, 1, 2] rfl)
      · have hw := hw.2 hc14
        obtain ⟨x3_17, ex3_17⟩ : ∃ y : Int32, y = x3 + (-1) := ⟨_, rfl⟩
        have hw := hw x3_17 ex3_17
        refine lv_iinc (v := x3_17) (lv' := [(3, .int x3_17), (0, .ref (q 0)), (1, .int x1)]) hx hb dX7_take_17 hl (k := 2) rfl (by rw [ex3_17]; rfl) (by decide) rfl (fun ls hl => ?_)
        refine lv_goto (tgt := 2) hx hb dX7_take_20 (by decide) ?_
        exact ih _ _ _ _ _ _ _ hw hP hS (lv_sub hl [1, 2, 0] rfl)
set_option maxHeartbeats 4000000 in
set_option maxRecDepth 100000 in
theorem ml_X7_take_26 (C : C7 p s m args meth c D cI q cX7_take 5 none) (th : Int32) (sz : Int32) (sd : Int32) (ss : Int32) (pr : Int32) (me : Int32) (ab : Nat → Int32) (be : Nat → Int32) (sg : Nat → Int32) (wo : Nat → Int32) (post : (Nat → Int32) → (Nat → Int32) → Prop) (K58 : (Nat → Int32) → (Nat → Int32) → Int32 → Int32 → Prop)
    (hK58 : (∀ (pi : Nat → Int32) (le : Nat → Int32) (x1 : Int32) (x3 : Int32) (H : Heap) (locs : List Loc) (ls : Array Slot), K58 pi le x1 x3 → va_P D vwCl (w7 cI q th sz sd ss pr me ab be pi le sg wo) H → va_S (A7 q) s.heap H locs → lv_has ls 5 [(0, .ref (q 0)), (1, .int x1), (3, .int x3)] → W p l e rX7_take s m args below meth c H locs 0 0 (MQ below (va_Qv (S := (Nat → Int32) × (Nat → Int32)) (fun u => post u.1 u.2) (fun u t => va_P D vwCl (w7 cI q th sz sd ss pr me ab be u.1 u.2 sg wo) t.heap) (A7 q)) args s 0 0 (A7 q)) (F0 m 58 ls []))) :
    ∀ (n : Nat) (pi : Nat → Int32) (le : Nat → Int32) (x1 : Int32) (x3 : Int32) (x4 : Int32) (H : Heap) (locs : List Loc) (ls : Array Slot), wl_X7_take_26 wo post K58 n pi le x1 x3 x4 → va_P D vwCl (w7 cI q th sz sd ss pr me ab be pi le sg wo) H → va_S (A7 q) s.heap H locs → lv_has ls 5 [(0, .ref (q 0)), (1, .int x1), (3, .int x3), (4, .int x4)] → W p l e rX7_take s m args below meth c H locs 0 0 (MQ below (va_Qv (S := (Nat → Int32) × (Nat → Int32)) (fun u => post u.1 u.2) (fun u t => va_P D vwCl (w7 cI q th sz sd ss pr me ab be u.1 u.2 sg wo) t.heap) (A7 q)) args s 0 0 (A7 q)) (F0 m 26 ls []) := by
  obtain ⟨hx, hb, hr, hml, hown, hg, hlocks, hK, hap⟩ := id C
  intro n
  induction n with
  | zero => intro pi le x1 x3 x4 H locs ls hw; exact absurd hw id
  | succ n ih =>
    intro pi le x1 x3 x4 H locs ls hw hP hS hl
    refine lv_iload hx hb dX7_take_26 (lv_at hl 3 rfl) ?_
    refine lv_iload_n hx hb dX7_take_28 rfl (lv_at hl 2 rfl) ?_
    refine lv_icmp_ge (tgt := 58) hx hb dX7_take_29 (by decide) (fun hc29 => ?_) (fun hc29 => ?_)
    · have hw := hw.1 hc29
      exact hK58 _ _ _ _ _ _ _ hw hP hS (lv_sub hl [0, 1, 2] rfl)
    · have hw := hw.2 hc29
      refine lv_aload_n hx hb dX7_take_32 rfl (lv_at hl 0 rfl) ?_
      refine va_get (D := D) (ci := 7) (v := .ref (q 3)) (C := RX7) (T := TX7) (N := 12) hx hb hg ku_X7 hown hK hP 0 rfl rfl 8 (by decide) (hg _ kf_X7_37) (fun _ h9 => h9) rfl dX7_take_33 ?_
      refine lv_sipush (v := 1500) hx hb dX7_take_36 (by decide) ?_
      refine lv_iload_n hx hb dX7_take_39 rfl (lv_at hl 1 rfl) ?_
      refine lv_imul hx hb dX7_take_40 ?_
      refine lv_iload hx hb dX7_take_41 (lv_at hl 3 rfl) ?_
      refine lv_iadd hx hb dX7_take_43 ?_
      refine lv_aload_n hx hb dX7_take_44 rfl (lv_at hl 0 rfl) ?_
      refine va_get (D := D) (ci := 7) (v := .ref (q 6)) (C := RX7) (T := TX7) (N := 12) hx hb hg ku_X7 hown hK hP 0 rfl rfl 11 (by decide) (hg _ kf_X7_46) (fun _ h9 => h9) rfl dX7_take_45 ?_
      refine lv_iload hx hb dX7_take_48 (lv_at hl 3 rfl) ?_
      obtain ⟨hi50, hw⟩ := hw
      refine va_iald (D := D) hx hb hK hP 6 0 rfl rfl hi50 dX7_take_50 ?_
      obtain ⟨hi51, hw⟩ := hw
      refine va_iast (D := D) hx hb hK hP (D7 hap) hS 3 0 rfl rfl hi51 dX7_take_51 (fun H locs hP _ hS => ?_)
      have hP : va_P D vwCl (w7 cI q th sz sd ss pr me ab be (upd pi (((1500 * x1) + x4) : Int32).toNatClampNeg (wo (x4 : Int32).toNatClampNeg)) le sg wo) H := hP
      obtain ⟨x4_52, ex4_52⟩ : ∃ y : Int32, y = x4 + 1 := ⟨_, rfl⟩
      have hw := hw x4_52 ex4_52
      refine lv_iinc (v := x4_52) (lv' := [(4, .int x4_52), (0, .ref (q 0)), (1, .int x1), (3, .int x3)]) hx hb dX7_take_52 hl (k := 3) rfl (by rw [ex4_52]; rfl) (by decide) rfl (fun ls hl => ?_)
      refine lv_goto (tgt := 26) hx hb dX7_take_55 (by decide) ?_
      exact ih _ _ _ _ _ _ _ _ hw hP hS (lv_sub hl [1, 2, 3, 0] rfl)
set_option maxHeartbeats 4000000 in
set_option maxRecDepth 100000 in
theorem mj_X7_take_23 (C : C7 p s m args meth c D cI q cX7_take 5 none) (th : Int32) (sz : Int32) (sd : Int32) (ss : Int32) (pr : Int32) (me : Int32) (ab : Nat → Int32) (be : Nat → Int32) (sg : Nat → Int32) (wo : Nat → Int32) (post : (Nat → Int32) → (Nat → Int32) → Prop) 
    
    (pi : Nat → Int32) (le : Nat → Int32) (x1 : Int32) (x3 : Int32) (H : Heap) (locs : List Loc) (ls : Array Slot) (hw : wj_X7_take_23 wo post  pi le x1 x3) (hP : va_P D vwCl (w7 cI q th sz sd ss pr me ab be pi le sg wo) H) (hS : va_S (A7 q) s.heap H locs) (hl : lv_has ls 5 [(0, .ref (q 0)), (1, .int x1), (3, .int x3)]) : W p l e rX7_take s m args below meth c H locs 0 0 (MQ below (va_Qv (S := (Nat → Int32) × (Nat → Int32)) (fun u => post u.1 u.2) (fun u t => va_P D vwCl (w7 cI q th sz sd ss pr me ab be u.1 u.2 sg wo) t.heap) (A7 q)) args s 0 0 (A7 q)) (F0 m 23 ls []) := by
  obtain ⟨hx, hb, hr, hml, hown, hg, hlocks, hK, hap⟩ := id C
  unfold wj_X7_take_23 at hw
  refine lv_iconst (v := 0) hx hb dX7_take_23 (by decide) ?_
  refine lv_istore (lv' := [(4, .int 0), (0, .ref (q 0)), (1, .int x1), (3, .int x3)]) hx hb dX7_take_24 hl (by decide) rfl (fun ls hl => ?_)
  obtain ⟨n26, hw⟩ := hw
  refine ml_X7_take_26 C th sz sd ss pr me ab be sg wo post _ ?_ n26 _ _ _ _ _ _ _ _ hw hP hS (lv_sub hl [1, 2, 3, 0] rfl)
  · intro pi le x1 x3 H locs ls hw hP hS hl
    refine lv_aload_n hx hb dX7_take_58 rfl (lv_at hl 0 rfl) ?_
    refine va_get (D := D) (ci := 7) (v := .ref (q 4)) (C := RX7) (T := TX7) (N := 12) hx hb hg ku_X7 hown hK hP 0 rfl rfl 9 (by decide) (hg _ kf_X7_40) (fun _ h9 => h9) rfl dX7_take_59 ?_
    refine lv_iload_n hx hb dX7_take_62 rfl (lv_at hl 1 rfl) ?_
    refine lv_iload_n hx hb dX7_take_63 rfl (lv_at hl 2 rfl) ?_
    obtain ⟨hi64, hw⟩ := hw
    refine va_iast (D := D) hx hb hK hP (D7 hap) hS 4 0 rfl rfl hi64 dX7_take_64 (fun H locs hP _ hS => ?_)
    have hP : va_P D vwCl (w7 cI q th sz sd ss pr me ab be pi (upd le (x1 : Int32).toNatClampNeg x3) sg wo) H := hP
    exact W.vret hx hb hr (fun t ht hW => ⟨⟨(pi, (upd le (x1 : Int32).toNatClampNeg x3)), rfl, hw, by show va_P D vwCl _ t.heap; rw [ht]; exact hP⟩, hS.F ht⟩) hS.2.2 dX7_take_65 hlocks
set_option maxHeartbeats 4000000 in
set_option maxRecDepth 100000 in
theorem m_X7_take (l : Launch) (D : va_G) (cI : ClassId) (q : Nat → Nat) (th : Int32) (sz : Int32) (sd : Int32) (ss : Int32) (pr : Int32) (me : Int32) (ab : Nat → Int32) (be : Nat → Int32) (pi : Nat → Int32) (le : Nat → Int32) (sg : Nat → Int32) (wo : Nat → Int32) (x1 : Int32) (x2 : Int32) (post : (Nat → Int32) → (Nat → Int32) → Prop) (hw : wp_X7_take pi le wo x1 x2 post) : Met l yX7_take (wu yX7_take cX7_take 5 none) rX7_take (va_Pc [.ref (q 0), .int x1, .int x2] (fun U => va_P D vwCl (w7 cI q th sz sd ss pr me ab be pi le sg wo) U.heap ∧ K7 D cI q U)) (va_Qv (S := (Nat → Int32) × (Nat → Int32)) (fun u => post u.1 u.2) (fun u t => va_P D vwCl (w7 cI q th sz sd ss pr me ab be u.1 u.2 sg wo) t.heap) (A7 q)) 0 0 (A7 q) := by
  refine Met.ofW (cc := cX7_take) (maxL := 5) (ret := none) (by decide) rfl ?_
  intro p e s m args below meth c s₁ B hml hv
  obtain ⟨rfl, hP, hK, hap⟩ := hv
  have C : C7 p s m _ meth c D cI q cX7_take 5 none := ⟨B.exec, B.bytes, B.returns, hml, findClass_of_methodNamed B.named, x_hg (atoms_spec (ws := wu yX7_take cX7_take 5 none) B.pre), B.notSynchronized, hK, hap⟩
  obtain ⟨hx, hb, hr, hml, hown, hg, hlocks, hK, hap⟩ := id C
  have hS : va_S (A7 q) s.heap s.heap [] := va_S.rf
  have hl := lv_entry ([.ref (q 0), .int x1, .int x2]) (n := 5) (Nat.le_of_ble_eq_true rfl)
  rw [lg_entry_eq]
  generalize (lg_sl ([.ref (q 0), .int x1, .int x2]) ++ List.replicate (5 - (lg_sl ([.ref (q 0), .int x1, .int x2])).length) Slot.unset).toArray = ls at hl ⊢
  have hl : lv_has ls 5 [(0, .ref (q 0)), (1, .int x1), (2, .int x2)] := hl
  unfold wp_X7_take at hw
  refine lv_iload_n hx hb dX7_take_0 rfl (lv_at hl 2 rfl) ?_
  refine lv_istore_n (lv' := [(3, .int x2), (0, .ref (q 0)), (1, .int x1), (2, .int x2)]) hx hb dX7_take_1 rfl hl (by decide) rfl (fun ls hl => ?_)
  obtain ⟨n2, hw⟩ := hw
  refine ml_X7_take_2 C th sz sd ss pr me ab be sg wo post _ ?_ n2 _ _ _ _ _ _ _ hw hP hS (lv_sub hl [1, 2, 0] rfl)
  · intro pi le x1 x3 H locs ls hw hP hS hl
    exact mj_X7_take_23 C th sz sd ss pr me ab be sg wo post  _ _ _ _ _ _ _ hw hP hS (lv_sub hl [0, 1, 2] rfl)
-- ===== ExactFilterModel.small
abbrev rX7_small : Room := { frames := 1, cells := 0, slots := 0, locals := 24 }
def wp_X7_small (pi : Nat → Int32) (le : Nat → Int32) (wo : Nat → Int32) (x1 : Int32) (x2 : Int32) (post : (Nat → Int32) → (Nat → Int32) → (Nat → Int32) → Prop) : Prop := vp_in 0 3010 ∧ vp_in 1 3010 ∧ wp_X7_take pi le (upd (upd wo (0 : Int32).toNatClampNeg (x2 &&& 65535)) (1 : Int32).toNatClampNeg (((x2).toUInt32 >>> ((16 : Int32).toUInt32 &&& Int32.toUInt32 31)).toInt32)) x1 2 (fun (pi_23 : Nat → Int32) (le_23 : Nat → Int32) => post pi_23 le_23 (upd (upd wo (0 : Int32).toNatClampNeg (x2 &&& 65535)) (1 : Int32).toNatClampNeg (((x2).toUInt32 >>> ((16 : Int32).toUInt32 &&& Int32.toUInt32 31)).toInt32)))
set_option maxHeartbeats 4000000 in
set_option maxRecDepth 100000 in
theorem m_X7_small (l : Launch) (D : va_G) (cI : ClassId) (q : Nat → Nat) (th : Int32) (sz : Int32) (sd : Int32) (ss : Int32) (pr : Int32) (me : Int32) (ab : Nat → Int32) (be : Nat → Int32) (pi : Nat → Int32) (le : Nat → Int32) (sg : Nat → Int32) (wo : Nat → Int32) (x1 : Int32) (x2 : Int32) (post : (Nat → Int32) → (Nat → Int32) → (Nat → Int32) → Prop) (hw : wp_X7_small pi le wo x1 x2 post) : Met l yX7_small (wu yX7_small cX7_small 3 none) rX7_small (va_Pc [.ref (q 0), .int x1, .int x2] (fun U => va_P D vwCl (w7 cI q th sz sd ss pr me ab be pi le sg wo) U.heap ∧ K7 D cI q U)) (va_Qv (S := (Nat → Int32) × (Nat → Int32) × (Nat → Int32)) (fun u => post u.1 u.2.1 u.2.2) (fun u t => va_P D vwCl (w7 cI q th sz sd ss pr me ab be u.1 u.2.1 sg u.2.2) t.heap) (A7 q)) 0 0 (A7 q) := by
  refine Met.ofW (cc := cX7_small) (maxL := 3) (ret := none) (by decide) rfl ?_
  intro p e s m args below meth c s₁ B hml hv
  obtain ⟨rfl, hP, hK, hap⟩ := hv
  have C : C7 p s m _ meth c D cI q cX7_small 3 none := ⟨B.exec, B.bytes, B.returns, hml, findClass_of_methodNamed B.named, x_hg (atoms_spec (ws := wu yX7_small cX7_small 3 none) B.pre), B.notSynchronized, hK, hap⟩
  obtain ⟨hx, hb, hr, hml, hown, hg, hlocks, hK, hap⟩ := id C
  have hS : va_S (A7 q) s.heap s.heap [] := va_S.rf
  have hl := lv_entry ([.ref (q 0), .int x1, .int x2]) (n := 3) (Nat.le_of_ble_eq_true rfl)
  rw [lg_entry_eq]
  generalize (lg_sl ([.ref (q 0), .int x1, .int x2]) ++ List.replicate (3 - (lg_sl ([.ref (q 0), .int x1, .int x2])).length) Slot.unset).toArray = ls at hl ⊢
  have hl : lv_has ls 3 [(0, .ref (q 0)), (1, .int x1), (2, .int x2)] := hl
  unfold wp_X7_small at hw
  refine lv_aload_n hx hb dX7_small_0 rfl (lv_at hl 0 rfl) ?_
  refine va_get (D := D) (ci := 7) (v := .ref (q 6)) (C := RX7) (T := TX7) (N := 12) hx hb hg ku_X7 hown hK hP 0 rfl rfl 11 (by decide) (hg _ kf_X7_46) (fun _ h9 => h9) rfl dX7_small_1 ?_
  refine lv_iconst (v := 0) hx hb dX7_small_4 (by decide) ?_
  refine lv_iload_n hx hb dX7_small_5 rfl (lv_at hl 2 rfl) ?_
  refine lv_ldc (v := 65535) hx hb hown (hg _ kc_X7_57) dX7_small_6 ?_
  refine lv_iand hx hb dX7_small_8 ?_
  obtain ⟨hi9, hw⟩ := hw
  refine va_iast (D := D) hx hb hK hP (D7 hap) hS 6 0 rfl rfl hi9 dX7_small_9 (fun H locs hP _ hS => ?_)
  have hP : va_P D vwCl (w7 cI q th sz sd ss pr me ab be pi le sg (upd wo (0 : Int32).toNatClampNeg (x2 &&& 65535))) H := hP
  refine lv_aload_n hx hb dX7_small_10 rfl (lv_at hl 0 rfl) ?_
  refine va_get (D := D) (ci := 7) (v := .ref (q 6)) (C := RX7) (T := TX7) (N := 12) hx hb hg ku_X7 hown hK hP 0 rfl rfl 11 (by decide) (hg _ kf_X7_46) (fun _ h9 => h9) rfl dX7_small_11 ?_
  refine lv_iconst (v := 1) hx hb dX7_small_14 (by decide) ?_
  refine lv_iload_n hx hb dX7_small_15 rfl (lv_at hl 2 rfl) ?_
  refine lv_bipush (v := 16) hx hb dX7_small_16 (by decide) ?_
  refine lv_iushr (v := ((x2).toUInt32 >>> ((16 : Int32).toUInt32 &&& Int32.toUInt32 31)).toInt32) hx hb dX7_small_18 rfl ?_
  obtain ⟨hi19, hw⟩ := hw
  refine va_iast (D := D) hx hb hK hP (D7 hap) hS 6 0 rfl rfl hi19 dX7_small_19 (fun H locs hP _ hS => ?_)
  have hP : va_P D vwCl (w7 cI q th sz sd ss pr me ab be pi le sg (upd (upd wo (0 : Int32).toNatClampNeg (x2 &&& 65535)) (1 : Int32).toNatClampNeg (((x2).toUInt32 >>> ((16 : Int32).toUInt32 &&& Int32.toUInt32 31)).toInt32))) H := hP
  refine lv_aload_n hx hb dX7_small_20 rfl (lv_at hl 0 rfl) ?_
  refine lv_iload_n hx hb dX7_small_21 rfl (lv_at hl 1 rfl) ?_
  refine lv_iconst (v := 2) hx hb dX7_small_22 (by decide) ?_
  refine va_callv (va_runV (As := [.int x1, .int 2]) (rest := []) ⟨hx, hb, hml, hown, hg⟩ (m_X7_take l D cI q th sz sd ss pr me ab be pi le sg (upd (upd wo (0 : Int32).toNatClampNeg (x2 &&& 65535)) (1 : Int32).toNatClampNeg (((x2).toUInt32 >>> ((16 : Int32).toUInt32 &&& Int32.toUInt32 31)).toInt32)) x1 2 _ hw) (cwV 2 hg (x_gV km_X7_58 ki_X7_take kz_X7_X7_take kn_X7 kk_X7_take) rfl rfl rfl (by decide +kernel) ⟨Nat.le_of_ble_eq_true rfl, Nat.le_of_ble_eq_true rfl⟩) (pre7V hP hK hap [.int x1, .int 2]) rfl rfl hl.1 rfl (lv_room (Nat.le_of_ble_eq_true rfl)) dX7_small_23 ⟨Nat.zero_le _, Nat.zero_le _⟩) hS (fun _ _ h => h) (fun _ h => h) (fun  u t H locs ht hvm hw hP hz1 hk1 hS => ?_)
  obtain ⟨pi_23, le_23⟩ := u
  rw [ht] at hP; clear hz1 hk1 ht hvm
  try dsimp only at hw
  try dsimp only at hP
  exact W.vret hx hb hr (fun t ht hW => ⟨⟨(pi_23, le_23, (upd (upd wo (0 : Int32).toNatClampNeg (x2 &&& 65535)) (1 : Int32).toNatClampNeg (((x2).toUInt32 >>> ((16 : Int32).toUInt32 &&& Int32.toUInt32 31)).toInt32))), rfl, hw, by show va_P D vwCl _ t.heap; rw [ht]; exact hP⟩, hS.F ht⟩) hS.2.2 dX7_small_26 hlocks
-- ===== ExactFilterModel.copy
abbrev rX7_copy : Room := { frames := 0, cells := 0, slots := 0, locals := 0 }
def wl_X7_copy_2  (post : (Nat → Int32) → (Nat → Int32) → Prop) (K42 : (Nat → Int32) → (Nat → Int32) → Int32 → Int32 → Prop) : Nat → (Nat → Int32) → (Nat → Int32) → Int32 → Int32 → Int32 → Prop
  | 0, _, _, _, _, _ => False
  | n + 1, pi, le, x1, x2, x3 => vp_in x2 64 ∧ ((le (x2 : Int32).toNatClampNeg) ≤ x3 → K42 pi le x1 x2) ∧ (¬ (le (x2 : Int32).toNatClampNeg) ≤ x3 → vp_in ((1500 * x2) + x3) 96000 ∧ vp_in ((1500 * x1) + x3) 96000 ∧ ∀ (x3_36 : Int32), x3_36 = x3 + 1 → wl_X7_copy_2  post K42 n (upd pi (((1500 * x1) + x3) : Int32).toNatClampNeg (pi (((1500 * x2) + x3) : Int32).toNatClampNeg)) le x1 x2 x3_36)
def wp_X7_copy (pi : Nat → Int32) (le : Nat → Int32) (x1 : Int32) (x2 : Int32) (post : (Nat → Int32) → (Nat → Int32) → Prop) : Prop := ∃ n2 : Nat, wl_X7_copy_2  post (fun (pi : Nat → Int32) (le : Nat → Int32) (x1 : Int32) (x2 : Int32) => vp_in x2 64 ∧ vp_in x1 64 ∧ post pi (upd le (x1 : Int32).toNatClampNeg (le (x2 : Int32).toNatClampNeg))) n2 pi le x1 x2 0
set_option maxHeartbeats 4000000 in
set_option maxRecDepth 100000 in
theorem ml_X7_copy_2 (C : C7 p s m args meth c D cI q cX7_copy 4 none) (th : Int32) (sz : Int32) (sd : Int32) (ss : Int32) (pr : Int32) (me : Int32) (ab : Nat → Int32) (be : Nat → Int32) (sg : Nat → Int32) (wo : Nat → Int32) (post : (Nat → Int32) → (Nat → Int32) → Prop) (K42 : (Nat → Int32) → (Nat → Int32) → Int32 → Int32 → Prop)
    (hK42 : (∀ (pi : Nat → Int32) (le : Nat → Int32) (x1 : Int32) (x2 : Int32) (H : Heap) (locs : List Loc) (ls : Array Slot), K42 pi le x1 x2 → va_P D vwCl (w7 cI q th sz sd ss pr me ab be pi le sg wo) H → va_S (A7 q) s.heap H locs → lv_has ls 4 [(0, .ref (q 0)), (1, .int x1), (2, .int x2)] → W p l e rX7_copy s m args below meth c H locs 0 0 (MQ below (va_Qv (S := (Nat → Int32) × (Nat → Int32)) (fun u => post u.1 u.2) (fun u t => va_P D vwCl (w7 cI q th sz sd ss pr me ab be u.1 u.2 sg wo) t.heap) (A7 q)) args s 0 0 (A7 q)) (F0 m 42 ls []))) :
    ∀ (n : Nat) (pi : Nat → Int32) (le : Nat → Int32) (x1 : Int32) (x2 : Int32) (x3 : Int32) (H : Heap) (locs : List Loc) (ls : Array Slot), wl_X7_copy_2  post K42 n pi le x1 x2 x3 → va_P D vwCl (w7 cI q th sz sd ss pr me ab be pi le sg wo) H → va_S (A7 q) s.heap H locs → lv_has ls 4 [(0, .ref (q 0)), (1, .int x1), (2, .int x2), (3, .int x3)] → W p l e rX7_copy s m args below meth c H locs 0 0 (MQ below (va_Qv (S := (Nat → Int32) × (Nat → Int32)) (fun u => post u.1 u.2) (fun u t => va_P D vwCl (w7 cI q th sz sd ss pr me ab be u.1 u.2 sg wo) t.heap) (A7 q)) args s 0 0 (A7 q)) (F0 m 2 ls []) := by
  obtain ⟨hx, hb, hr, hml, hown, hg, hlocks, hK, hap⟩ := id C
  intro n
  induction n with
  | zero => intro pi le x1 x2 x3 H locs ls hw; exact absurd hw id
  | succ n ih =>
    intro pi le x1 x2 x3 H locs ls hw hP hS hl
    refine lv_iload_n hx hb dX7_copy_2 rfl (lv_at hl 3 rfl) ?_
    refine lv_aload_n hx hb dX7_copy_3 rfl (lv_at hl 0 rfl) ?_
    refine va_get (D := D) (ci := 7) (v := .ref (q 4)) (C := RX7) (T := TX7) (N := 12) hx hb hg ku_X7 hown hK hP 0 rfl rfl 9 (by decide) (hg _ kf_X7_40) (fun _ h9 => h9) rfl dX7_copy_4 ?_
    refine lv_iload_n hx hb dX7_copy_7 rfl (lv_at hl 2 rfl) ?_
    obtain ⟨hi8, hw⟩ := hw
    refine va_iald (D := D) hx hb hK hP 4 0 rfl rfl hi8 dX7_copy_8 ?_
    refine lv_icmp_ge (tgt := 42) hx hb dX7_copy_9 (by decide) (fun hc9 => ?_) (fun hc9 => ?_)
    · have hw := hw.1 hc9
      exact hK42 _ _ _ _ _ _ _ hw hP hS (lv_sub hl [0, 1, 2] rfl)
    · have hw := hw.2 hc9
      refine lv_aload_n hx hb dX7_copy_12 rfl (lv_at hl 0 rfl) ?_
      refine va_get (D := D) (ci := 7) (v := .ref (q 3)) (C := RX7) (T := TX7) (N := 12) hx hb hg ku_X7 hown hK hP 0 rfl rfl 8 (by decide) (hg _ kf_X7_37) (fun _ h9 => h9) rfl dX7_copy_13 ?_
      refine lv_sipush (v := 1500) hx hb dX7_copy_16 (by decide) ?_
      refine lv_iload_n hx hb dX7_copy_19 rfl (lv_at hl 1 rfl) ?_
      refine lv_imul hx hb dX7_copy_20 ?_
      refine lv_iload_n hx hb dX7_copy_21 rfl (lv_at hl 3 rfl) ?_
      refine lv_iadd hx hb dX7_copy_22 ?_
      refine lv_aload_n hx hb dX7_copy_23 rfl (lv_at hl 0 rfl) ?_
      refine va_get (D := D) (ci := 7) (v := .ref (q 3)) (C := RX7) (T := TX7) (N := 12) hx hb hg ku_X7 hown hK hP 0 rfl rfl 8 (by decide) (hg _ kf_X7_37) (fun _ h9 => h9) rfl dX7_copy_24 ?_
      refine lv_sipush (v := 1500) hx hb dX7_copy_27 (by decide) ?_
      refine lv_iload_n hx hb dX7_copy_30 rfl (lv_at hl 2 rfl) ?_
      refine lv_imul hx hb dX7_copy_31 ?_
      refine lv_iload_n hx hb dX7_copy_32 rfl (lv_at hl 3 rfl) ?_
      refine lv_iadd hx hb dX7_copy_33 ?_
      obtain ⟨hi34, hw⟩ := hw
      refine va_iald (D := D) hx hb hK hP 3 0 rfl rfl hi34 dX7_copy_34 ?_
      obtain ⟨hi35, hw⟩ := hw
      refine va_iast (D := D) hx hb hK hP (D7 hap) hS 3 0 rfl rfl hi35 dX7_copy_35 (fun H locs hP _ hS => ?_)
      have hP : va_P D vwCl (w7 cI q th sz sd ss pr me ab be (upd pi (((1500 * x1) + x3) : Int32).toNatClampNeg (pi (((1500 * x2) + x3) : Int32).toNatClampNeg)) le sg wo) H := hP
      obtain ⟨x3_36, ex3_36⟩ : ∃ y : Int32, y = x3 + 1 := ⟨_, rfl⟩
      have hw := hw x3_36 ex3_36
      refine lv_iinc (v := x3_36) (lv' := [(3, .int x3_36), (0, .ref (q 0)), (1, .int x1), (2, .int x2)]) hx hb dX7_copy_36 hl (k := 3) rfl (by rw [ex3_36]; rfl) (by decide) rfl (fun ls hl => ?_)
      refine lv_goto (tgt := 2) hx hb dX7_copy_39 (by decide) ?_
      exact ih _ _ _ _ _ _ _ _ hw hP hS (lv_sub hl [1, 2, 3, 0] rfl)
set_option maxHeartbeats 4000000 in
set_option maxRecDepth 100000 in
theorem m_X7_copy (l : Launch) (D : va_G) (cI : ClassId) (q : Nat → Nat) (th : Int32) (sz : Int32) (sd : Int32) (ss : Int32) (pr : Int32) (me : Int32) (ab : Nat → Int32) (be : Nat → Int32) (pi : Nat → Int32) (le : Nat → Int32) (sg : Nat → Int32) (wo : Nat → Int32) (x1 : Int32) (x2 : Int32) (post : (Nat → Int32) → (Nat → Int32) → Prop) (hw : wp_X7_copy pi le x1 x2 post) : Met l yX7_copy (wu yX7_copy cX7_copy 4 none) rX7_copy (va_Pc [.ref (q 0), .int x1, .int x2] (fun U => va_P D vwCl (w7 cI q th sz sd ss pr me ab be pi le sg wo) U.heap ∧ K7 D cI q U)) (va_Qv (S := (Nat → Int32) × (Nat → Int32)) (fun u => post u.1 u.2) (fun u t => va_P D vwCl (w7 cI q th sz sd ss pr me ab be u.1 u.2 sg wo) t.heap) (A7 q)) 0 0 (A7 q) := by
  refine Met.ofW (cc := cX7_copy) (maxL := 4) (ret := none) (by decide) rfl ?_
  intro p e s m args below meth c s₁ B hml hv
  obtain ⟨rfl, hP, hK, hap⟩ := hv
  have C : C7 p s m _ meth c D cI q cX7_copy 4 none := ⟨B.exec, B.bytes, B.returns, hml, findClass_of_methodNamed B.named, x_hg (atoms_spec (ws := wu yX7_copy cX7_copy 4 none) B.pre), B.notSynchronized, hK, hap⟩
  obtain ⟨hx, hb, hr, hml, hown, hg, hlocks, hK, hap⟩ := id C
  have hS : va_S (A7 q) s.heap s.heap [] := va_S.rf
  have hl := lv_entry ([.ref (q 0), .int x1, .int x2]) (n := 4) (Nat.le_of_ble_eq_true rfl)
  rw [lg_entry_eq]
  generalize (lg_sl ([.ref (q 0), .int x1, .int x2]) ++ List.replicate (4 - (lg_sl ([.ref (q 0), .int x1, .int x2])).length) Slot.unset).toArray = ls at hl ⊢
  have hl : lv_has ls 4 [(0, .ref (q 0)), (1, .int x1), (2, .int x2)] := hl
  unfold wp_X7_copy at hw
  refine lv_iconst (v := 0) hx hb dX7_copy_0 (by decide) ?_
  refine lv_istore_n (lv' := [(3, .int 0), (0, .ref (q 0)), (1, .int x1), (2, .int x2)]) hx hb dX7_copy_1 rfl hl (by decide) rfl (fun ls hl => ?_)
  obtain ⟨n2, hw⟩ := hw
  refine ml_X7_copy_2 C th sz sd ss pr me ab be sg wo post _ ?_ n2 _ _ _ _ _ _ _ _ hw hP hS (lv_sub hl [1, 2, 3, 0] rfl)
  · intro pi le x1 x2 H locs ls hw hP hS hl
    refine lv_aload_n hx hb dX7_copy_42 rfl (lv_at hl 0 rfl) ?_
    refine va_get (D := D) (ci := 7) (v := .ref (q 4)) (C := RX7) (T := TX7) (N := 12) hx hb hg ku_X7 hown hK hP 0 rfl rfl 9 (by decide) (hg _ kf_X7_40) (fun _ h9 => h9) rfl dX7_copy_43 ?_
    refine lv_iload_n hx hb dX7_copy_46 rfl (lv_at hl 1 rfl) ?_
    refine lv_aload_n hx hb dX7_copy_47 rfl (lv_at hl 0 rfl) ?_
    refine va_get (D := D) (ci := 7) (v := .ref (q 4)) (C := RX7) (T := TX7) (N := 12) hx hb hg ku_X7 hown hK hP 0 rfl rfl 9 (by decide) (hg _ kf_X7_40) (fun _ h9 => h9) rfl dX7_copy_48 ?_
    refine lv_iload_n hx hb dX7_copy_51 rfl (lv_at hl 2 rfl) ?_
    obtain ⟨hi52, hw⟩ := hw
    refine va_iald (D := D) hx hb hK hP 4 0 rfl rfl hi52 dX7_copy_52 ?_
    obtain ⟨hi53, hw⟩ := hw
    refine va_iast (D := D) hx hb hK hP (D7 hap) hS 4 0 rfl rfl hi53 dX7_copy_53 (fun H locs hP _ hS => ?_)
    have hP : va_P D vwCl (w7 cI q th sz sd ss pr me ab be pi (upd le (x1 : Int32).toNatClampNeg (le (x2 : Int32).toNatClampNeg)) sg wo) H := hP
    exact W.vret hx hb hr (fun t ht hW => ⟨⟨(pi, (upd le (x1 : Int32).toNatClampNeg (le (x2 : Int32).toNatClampNeg))), rfl, hw, by show va_P D vwCl _ t.heap; rw [ht]; exact hP⟩, hS.F ht⟩) hS.2.2 dX7_copy_54 hlocks
-- ===== ExactFilterModel.order
abbrev rX7_order : Room := { frames := 1, cells := 0, slots := 0, locals := 22 }
def wl_X7_order_45 (pi : Nat → Int32) (le : Nat → Int32) (post : Int32 → Prop) (K64 : Int32 → Int32 → Int32 → Prop) (K91 : Prop) : Nat → Int32 → Int32 → Int32 → Prop
  | 0, _, _, _ => False
  | n + 1, x1, x2, x3 => (x3 < 0 → K91 ) ∧ (¬ x3 < 0 → wp_X7_digit pi le x1 x3 (fun (r_52 : Int32) => wp_X7_digit pi le x2 x3 (fun (r_58 : Int32) => (r_52 = r_58 → ∀ (x3_85 : Int32), x3_85 = x3 + (-1) → wl_X7_order_45 pi le post K64 K91 n x1 x2 x3_85) ∧ (¬ r_52 = r_58 → K64 x1 x2 x3))))
def wj_X7_order_84 (pi : Nat → Int32) (le : Nat → Int32) (post : Int32 → Prop)  (s0 : Int32) : Prop := post s0 
def wj_X7_order_35 (pi : Nat → Int32) (le : Nat → Int32) (post : Int32 → Prop)  (s0 : Int32) : Prop := post s0 
def wp_X7_order (pi : Nat → Int32) (le : Nat → Int32) (x1 : Int32) (x2 : Int32) (post : Int32 → Prop) : Prop := vp_in x1 64 ∧ vp_in x2 64 ∧ ((le (x1 : Int32).toNatClampNeg) = (le (x2 : Int32).toNatClampNeg) → vp_in x1 64 ∧ ∀ (x3_44 : Int32), x3_44 = ((le (x1 : Int32).toNatClampNeg) - 1) → ∃ n45 : Nat, wl_X7_order_45 pi le post (fun (x1 : Int32) (x2 : Int32) (x3 : Int32) => wp_X7_digit pi le x1 x3 (fun (r_67 : Int32) => wp_X7_digit pi le x2 x3 (fun (r_73 : Int32) => (r_73 ≤ r_67 → wj_X7_order_84 pi le post  1) ∧ (¬ r_73 ≤ r_67 → wj_X7_order_84 pi le post  (-1))))) (post 0 ) n45 x1 x2 x3_44) ∧ (¬ (le (x1 : Int32).toNatClampNeg) = (le (x2 : Int32).toNatClampNeg) → vp_in x1 64 ∧ vp_in x2 64 ∧ ((le (x2 : Int32).toNatClampNeg) ≤ (le (x1 : Int32).toNatClampNeg) → wj_X7_order_35 pi le post  1) ∧ (¬ (le (x2 : Int32).toNatClampNeg) ≤ (le (x1 : Int32).toNatClampNeg) → wj_X7_order_35 pi le post  (-1)))
set_option maxHeartbeats 4000000 in
set_option maxRecDepth 100000 in
theorem ml_X7_order_45 (C : C7 p s m args meth c D cI q cX7_order 4 (some .int)) (th : Int32) (sz : Int32) (sd : Int32) (ss : Int32) (pr : Int32) (me : Int32) (ab : Nat → Int32) (be : Nat → Int32) (pi : Nat → Int32) (le : Nat → Int32) (sg : Nat → Int32) (wo : Nat → Int32) (post : Int32 → Prop) (K64 : Int32 → Int32 → Int32 → Prop) (K91 : Prop)
    (hK64 : (∀ (x1 : Int32) (x2 : Int32) (x3 : Int32) (H : Heap) (locs : List Loc) (ls : Array Slot), K64 x1 x2 x3 → va_P D vwCl (w7 cI q th sz sd ss pr me ab be pi le sg wo) H → va_S (A7 q) s.heap H locs → lv_has ls 4 [(0, .ref (q 0)), (1, .int x1), (2, .int x2), (3, .int x3)] → W p l e rX7_order s m args below meth c H locs 0 0 (MQ below (va_Qi (S := Unit) (fun r u => post r ) (fun u t => va_P D vwCl (w7 cI q th sz sd ss pr me ab be pi le sg wo) t.heap) (A7 q)) args s 0 0 (A7 q)) (F0 m 64 ls [])))
    (hK91 : (∀  (H : Heap) (locs : List Loc) (ls : Array Slot), K91 → va_P D vwCl (w7 cI q th sz sd ss pr me ab be pi le sg wo) H → va_S (A7 q) s.heap H locs → lv_has ls 4 [] → W p l e rX7_order s m args below meth c H locs 0 0 (MQ below (va_Qi (S := Unit) (fun r u => post r ) (fun u t => va_P D vwCl (w7 cI q th sz sd ss pr me ab be pi le sg wo) t.heap) (A7 q)) args s 0 0 (A7 q)) (F0 m 91 ls []))) :
    ∀ (n : Nat) (x1 : Int32) (x2 : Int32) (x3 : Int32) (H : Heap) (locs : List Loc) (ls : Array Slot), wl_X7_order_45 pi le post K64 K91 n x1 x2 x3 → va_P D vwCl (w7 cI q th sz sd ss pr me ab be pi le sg wo) H → va_S (A7 q) s.heap H locs → lv_has ls 4 [(0, .ref (q 0)), (1, .int x1), (2, .int x2), (3, .int x3)] → W p l e rX7_order s m args below meth c H locs 0 0 (MQ below (va_Qi (S := Unit) (fun r u => post r ) (fun u t => va_P D vwCl (w7 cI q th sz sd ss pr me ab be pi le sg wo) t.heap) (A7 q)) args s 0 0 (A7 q)) (F0 m 45 ls []) := by
  obtain ⟨hx, hb, hr, hml, hown, hg, hlocks, hK, hap⟩ := id C
  intro n
  induction n with
  | zero => intro x1 x2 x3 H locs ls hw; exact absurd hw id
  | succ n ih =>
    intro x1 x2 x3 H locs ls hw hP hS hl
    refine lv_iload_n hx hb dX7_order_45 rfl (lv_at hl 3 rfl) ?_
    refine lv_if_lt (tgt := 91) hx hb dX7_order_46 (by decide) (fun hc46 => ?_) (fun hc46 => ?_)
    · have hw := hw.1 hc46
      exact hK91  _ _ _ hw hP hS (lv_sub hl [] rfl)
    · have hw := hw.2 hc46
      refine lv_aload_n hx hb dX7_order_49 rfl (lv_at hl 0 rfl) ?_
      refine lv_iload_n hx hb dX7_order_50 rfl (lv_at hl 1 rfl) ?_
      refine lv_iload_n hx hb dX7_order_51 rfl (lv_at hl 3 rfl) ?_
      refine va_calli (va_runV (As := [.int x1, .int x3]) (rest := []) ⟨hx, hb, hml, hown, hg⟩ (m_X7_digit l D cI q th sz sd ss pr me ab be pi le sg wo x1 x3 _ hw) (cwV 2 hg (x_gV km_X7_62 ki_X7_digit kz_X7_X7_digit kn_X7 kk_X7_digit) rfl rfl rfl (by decide +kernel) ⟨Nat.le_of_ble_eq_true rfl, Nat.le_of_ble_eq_true rfl⟩) (pre7V hP hK hap [.int x1, .int x3]) rfl rfl hl.1 rfl (lv_room (Nat.le_of_ble_eq_true rfl)) dX7_order_52 ⟨Nat.zero_le _, Nat.zero_le _⟩) hS (fun _ _ h => h) (fun _ h => h) (fun r_52 u t H locs ht hvm hw hP hz1 hk1 hS => ?_)
      rw [ht] at hP; clear hz1 hk1 ht hvm
      try dsimp only at hw
      try dsimp only at hP
      refine lv_aload_n hx hb dX7_order_55 rfl (lv_at hl 0 rfl) ?_
      refine lv_iload_n hx hb dX7_order_56 rfl (lv_at hl 2 rfl) ?_
      refine lv_iload_n hx hb dX7_order_57 rfl (lv_at hl 3 rfl) ?_
      refine va_calli (va_runV (As := [.int x2, .int x3]) (rest := [.int r_52]) ⟨hx, hb, hml, hown, hg⟩ (m_X7_digit l D cI q th sz sd ss pr me ab be pi le sg wo x2 x3 _ hw) (cwV 2 hg (x_gV km_X7_62 ki_X7_digit kz_X7_X7_digit kn_X7 kk_X7_digit) rfl rfl rfl (by decide +kernel) ⟨Nat.le_of_ble_eq_true rfl, Nat.le_of_ble_eq_true rfl⟩) (pre7V hP hK hap [.int x2, .int x3]) rfl rfl hl.1 rfl (lv_room (Nat.le_of_ble_eq_true rfl)) dX7_order_58 ⟨Nat.zero_le _, Nat.zero_le _⟩) hS (fun _ _ h => h) (fun _ h => h) (fun r_58 u t H locs ht hvm hw hP hz1 hk1 hS => ?_)
      rw [ht] at hP; clear hz1 hk1 ht hvm
      try dsimp only at hw
      try dsimp only at hP
      refine lv_icmp_eq (tgt := 85) hx hb dX7_order_61 (by decide) (fun hc61 => ?_) (fun hc61 => ?_)
      · have hw := hw.1 hc61
        obtain ⟨x3_85, ex3_85⟩ : ∃ y : Int32, y = x3 + (-1) := ⟨_, rfl⟩
        have hw := hw x3_85 ex3_85
        refine lv_iinc (v := x3_85) (lv' := [(3, .int x3_85), (0, .ref (q 0)), (1, .int x1), (2, .int x2)]) hx hb dX7_order_85 hl (k := 3) rfl (by rw [ex3_85]; rfl) (by decide) rfl (fun ls hl => ?_)
        refine lv_goto (tgt := 45) hx hb dX7_order_88 (by decide) ?_
        exact ih _ _ _ _ _ _ hw hP hS (lv_sub hl [1, 2, 3, 0] rfl)
      · have hw := hw.2 hc61
        exact hK64 _ _ _ _ _ _ hw hP hS (lv_sub hl [0, 1, 2, 3] rfl)
set_option maxHeartbeats 4000000 in
set_option maxRecDepth 100000 in
theorem mj_X7_order_84 (C : C7 p s m args meth c D cI q cX7_order 4 (some .int)) (th : Int32) (sz : Int32) (sd : Int32) (ss : Int32) (pr : Int32) (me : Int32) (ab : Nat → Int32) (be : Nat → Int32) (pi : Nat → Int32) (le : Nat → Int32) (sg : Nat → Int32) (wo : Nat → Int32) (post : Int32 → Prop) 
    
    (s0 : Int32) (H : Heap) (locs : List Loc) (ls : Array Slot) (hw : wj_X7_order_84 pi le post  s0) (hP : va_P D vwCl (w7 cI q th sz sd ss pr me ab be pi le sg wo) H) (hS : va_S (A7 q) s.heap H locs) (hl : lv_has ls 4 []) : W p l e rX7_order s m args below meth c H locs 0 0 (MQ below (va_Qi (S := Unit) (fun r u => post r ) (fun u t => va_P D vwCl (w7 cI q th sz sd ss pr me ab be pi le sg wo) t.heap) (A7 q)) args s 0 0 (A7 q)) (F0 m 84 ls [.int s0]) := by
  obtain ⟨hx, hb, hr, hml, hown, hg, hlocks, hK, hap⟩ := id C
  unfold wj_X7_order_84 at hw
  exact W.iret (v := s0) hx hb hr (fun t ht hW => ⟨⟨s0, (), rfl, hw, by show va_P D vwCl _ t.heap; rw [ht]; exact hP⟩, hS.F ht⟩) hS.2.2 dX7_order_84 hlocks
set_option maxHeartbeats 4000000 in
set_option maxRecDepth 100000 in
theorem mj_X7_order_35 (C : C7 p s m args meth c D cI q cX7_order 4 (some .int)) (th : Int32) (sz : Int32) (sd : Int32) (ss : Int32) (pr : Int32) (me : Int32) (ab : Nat → Int32) (be : Nat → Int32) (pi : Nat → Int32) (le : Nat → Int32) (sg : Nat → Int32) (wo : Nat → Int32) (post : Int32 → Prop) 
    
    (s0 : Int32) (H : Heap) (locs : List Loc) (ls : Array Slot) (hw : wj_X7_order_35 pi le post  s0) (hP : va_P D vwCl (w7 cI q th sz sd ss pr me ab be pi le sg wo) H) (hS : va_S (A7 q) s.heap H locs) (hl : lv_has ls 4 []) : W p l e rX7_order s m args below meth c H locs 0 0 (MQ below (va_Qi (S := Unit) (fun r u => post r ) (fun u t => va_P D vwCl (w7 cI q th sz sd ss pr me ab be pi le sg wo) t.heap) (A7 q)) args s 0 0 (A7 q)) (F0 m 35 ls [.int s0]) := by
  obtain ⟨hx, hb, hr, hml, hown, hg, hlocks, hK, hap⟩ := id C
  unfold wj_X7_order_35 at hw
  exact W.iret (v := s0) hx hb hr (fun t ht hW => ⟨⟨s0, (), rfl, hw, by show va_P D vwCl _ t.heap; rw [ht]; exact hP⟩, hS.F ht⟩) hS.2.2 dX7_order_35 hlocks
set_option maxHeartbeats 4000000 in
set_option maxRecDepth 100000 in
theorem m_X7_order (l : Launch) (D : va_G) (cI : ClassId) (q : Nat → Nat) (th : Int32) (sz : Int32) (sd : Int32) (ss : Int32) (pr : Int32) (me : Int32) (ab : Nat → Int32) (be : Nat → Int32) (pi : Nat → Int32) (le : Nat → Int32) (sg : Nat → Int32) (wo : Nat → Int32) (x1 : Int32) (x2 : Int32) (post : Int32 → Prop) (hw : wp_X7_order pi le x1 x2 post) : Met l yX7_order (wu yX7_order cX7_order 4 (some .int)) rX7_order (va_Pc [.ref (q 0), .int x1, .int x2] (fun U => va_P D vwCl (w7 cI q th sz sd ss pr me ab be pi le sg wo) U.heap ∧ K7 D cI q U)) (va_Qi (S := Unit) (fun r u => post r ) (fun u t => va_P D vwCl (w7 cI q th sz sd ss pr me ab be pi le sg wo) t.heap) (A7 q)) 0 0 (A7 q) := by
  refine Met.ofW (cc := cX7_order) (maxL := 4) (ret := (some .int)) (by decide) rfl ?_
  intro p e s m args below meth c s₁ B hml hv
  obtain ⟨rfl, hP, hK, hap⟩ := hv
  have C : C7 p s m _ meth c D cI q cX7_order 4 (some .int) := ⟨B.exec, B.bytes, B.returns, hml, findClass_of_methodNamed B.named, x_hg (atoms_spec (ws := wu yX7_order cX7_order 4 (some .int)) B.pre), B.notSynchronized, hK, hap⟩
  obtain ⟨hx, hb, hr, hml, hown, hg, hlocks, hK, hap⟩ := id C
  have hS : va_S (A7 q) s.heap s.heap [] := va_S.rf
  have hl := lv_entry ([.ref (q 0), .int x1, .int x2]) (n := 4) (Nat.le_of_ble_eq_true rfl)
  rw [lg_entry_eq]
  generalize (lg_sl ([.ref (q 0), .int x1, .int x2]) ++ List.replicate (4 - (lg_sl ([.ref (q 0), .int x1, .int x2])).length) Slot.unset).toArray = ls at hl ⊢
  have hl : lv_has ls 4 [(0, .ref (q 0)), (1, .int x1), (2, .int x2)] := hl
  unfold wp_X7_order at hw
  refine lv_aload_n hx hb dX7_order_0 rfl (lv_at hl 0 rfl) ?_
  refine va_get (D := D) (ci := 7) (v := .ref (q 4)) (C := RX7) (T := TX7) (N := 12) hx hb hg ku_X7 hown hK hP 0 rfl rfl 9 (by decide) (hg _ kf_X7_40) (fun _ h9 => h9) rfl dX7_order_1 ?_
  refine lv_iload_n hx hb dX7_order_4 rfl (lv_at hl 1 rfl) ?_
  obtain ⟨hi5, hw⟩ := hw
  refine va_iald (D := D) hx hb hK hP 4 0 rfl rfl hi5 dX7_order_5 ?_
  refine lv_aload_n hx hb dX7_order_6 rfl (lv_at hl 0 rfl) ?_
  refine va_get (D := D) (ci := 7) (v := .ref (q 4)) (C := RX7) (T := TX7) (N := 12) hx hb hg ku_X7 hown hK hP 0 rfl rfl 9 (by decide) (hg _ kf_X7_40) (fun _ h9 => h9) rfl dX7_order_7 ?_
  refine lv_iload_n hx hb dX7_order_10 rfl (lv_at hl 2 rfl) ?_
  obtain ⟨hi11, hw⟩ := hw
  refine va_iald (D := D) hx hb hK hP 4 0 rfl rfl hi11 dX7_order_11 ?_
  refine lv_icmp_eq (tgt := 36) hx hb dX7_order_12 (by decide) (fun hc12 => ?_) (fun hc12 => ?_)
  · have hw := hw.1 hc12
    refine lv_aload_n hx hb dX7_order_36 rfl (lv_at hl 0 rfl) ?_
    refine va_get (D := D) (ci := 7) (v := .ref (q 4)) (C := RX7) (T := TX7) (N := 12) hx hb hg ku_X7 hown hK hP 0 rfl rfl 9 (by decide) (hg _ kf_X7_40) (fun _ h9 => h9) rfl dX7_order_37 ?_
    refine lv_iload_n hx hb dX7_order_40 rfl (lv_at hl 1 rfl) ?_
    obtain ⟨hi41, hw⟩ := hw
    refine va_iald (D := D) hx hb hK hP 4 0 rfl rfl hi41 dX7_order_41 ?_
    refine lv_iconst (v := 1) hx hb dX7_order_42 (by decide) ?_
    refine lv_isub hx hb dX7_order_43 ?_
    refine lv_topi (fun x3_44 ex3_44 => ?_)
    have hw := hw x3_44 ex3_44
    refine lv_istore_n (lv' := [(3, .int x3_44), (0, .ref (q 0)), (1, .int x1), (2, .int x2)]) hx hb dX7_order_44 rfl hl (by decide) rfl (fun ls hl => ?_)
    obtain ⟨n45, hw⟩ := hw
    refine ml_X7_order_45 C th sz sd ss pr me ab be pi le sg wo post _ _ ?_ ?_ n45 _ _ _ _ _ _ hw hP hS (lv_sub hl [1, 2, 3, 0] rfl)
    · intro x1 x2 x3 H locs ls hw hP hS hl
      refine lv_aload_n hx hb dX7_order_64 rfl (lv_at hl 0 rfl) ?_
      refine lv_iload_n hx hb dX7_order_65 rfl (lv_at hl 1 rfl) ?_
      refine lv_iload_n hx hb dX7_order_66 rfl (lv_at hl 3 rfl) ?_
      refine va_calli (va_runV (As := [.int x1, .int x3]) (rest := []) ⟨hx, hb, hml, hown, hg⟩ (m_X7_digit l D cI q th sz sd ss pr me ab be pi le sg wo x1 x3 _ hw) (cwV 2 hg (x_gV km_X7_62 ki_X7_digit kz_X7_X7_digit kn_X7 kk_X7_digit) rfl rfl rfl (by decide +kernel) ⟨Nat.le_of_ble_eq_true rfl, Nat.le_of_ble_eq_true rfl⟩) (pre7V hP hK hap [.int x1, .int x3]) rfl rfl hl.1 rfl (lv_room (Nat.le_of_ble_eq_true rfl)) dX7_order_67 ⟨Nat.zero_le _, Nat.zero_le _⟩) hS (fun _ _ h => h) (fun _ h => h) (fun r_67 u t H locs ht hvm hw hP hz1 hk1 hS => ?_)
      rw [ht] at hP; clear hz1 hk1 ht hvm
      try dsimp only at hw
      try dsimp only at hP
      refine lv_aload_n hx hb dX7_order_70 rfl (lv_at hl 0 rfl) ?_
      refine lv_iload_n hx hb dX7_order_71 rfl (lv_at hl 2 rfl) ?_
      refine lv_iload_n hx hb dX7_order_72 rfl (lv_at hl 3 rfl) ?_
      refine va_calli (va_runV (As := [.int x2, .int x3]) (rest := [.int r_67]) ⟨hx, hb, hml, hown, hg⟩ (m_X7_digit l D cI q th sz sd ss pr me ab be pi le sg wo x2 x3 _ hw) (cwV 2 hg (x_gV km_X7_62 ki_X7_digit kz_X7_X7_digit kn_X7 kk_X7_digit) rfl rfl rfl (by decide +kernel) ⟨Nat.le_of_ble_eq_true rfl, Nat.le_of_ble_eq_true rfl⟩) (pre7V hP hK hap [.int x2, .int x3]) rfl rfl hl.1 rfl (lv_room (Nat.le_of_ble_eq_true rfl)) dX7_order_73 ⟨Nat.zero_le _, Nat.zero_le _⟩) hS (fun _ _ h => h) (fun _ h => h) (fun r_73 u t H locs ht hvm hw hP hz1 hk1 hS => ?_)
      rw [ht] at hP; clear hz1 hk1 ht hvm
      try dsimp only at hw
      try dsimp only at hP
      refine lv_icmp_ge (tgt := 83) hx hb dX7_order_76 (by decide) (fun hc76 => ?_) (fun hc76 => ?_)
      · have hw := hw.1 hc76
        refine lv_iconst (v := 1) hx hb dX7_order_83 (by decide) ?_
        exact mj_X7_order_84 C th sz sd ss pr me ab be pi le sg wo post  _ _ _ _ hw hP hS (lv_sub hl [] rfl)
      · have hw := hw.2 hc76
        refine lv_iconst (v := (-1)) hx hb dX7_order_79 (by decide) ?_
        refine lv_goto (tgt := 84) hx hb dX7_order_80 (by decide) ?_
        exact mj_X7_order_84 C th sz sd ss pr me ab be pi le sg wo post  _ _ _ _ hw hP hS (lv_sub hl [] rfl)
    · intro  H locs ls hw hP hS hl
      refine lv_iconst (v := 0) hx hb dX7_order_91 (by decide) ?_
      exact W.iret (v := 0) hx hb hr (fun t ht hW => ⟨⟨0, (), rfl, hw, by show va_P D vwCl _ t.heap; rw [ht]; exact hP⟩, hS.F ht⟩) hS.2.2 dX7_order_92 hlocks
  · have hw := hw.2 hc12
    refine lv_aload_n hx hb dX7_order_15 rfl (lv_at hl 0 rfl) ?_
    refine va_get (D := D) (ci := 7) (v := .ref (q 4)) (C := RX7) (T := TX7) (N := 12) hx hb hg ku_X7 hown hK hP 0 rfl rfl 9 (by decide) (hg _ kf_X7_40) (fun _ h9 => h9) rfl dX7_order_16 ?_
    refine lv_iload_n hx hb dX7_order_19 rfl (lv_at hl 1 rfl) ?_
    obtain ⟨hi20, hw⟩ := hw
    refine va_iald (D := D) hx hb hK hP 4 0 rfl rfl hi20 dX7_order_20 ?_
    refine lv_aload_n hx hb dX7_order_21 rfl (lv_at hl 0 rfl) ?_
    refine va_get (D := D) (ci := 7) (v := .ref (q 4)) (C := RX7) (T := TX7) (N := 12) hx hb hg ku_X7 hown hK hP 0 rfl rfl 9 (by decide) (hg _ kf_X7_40) (fun _ h9 => h9) rfl dX7_order_22 ?_
    refine lv_iload_n hx hb dX7_order_25 rfl (lv_at hl 2 rfl) ?_
    obtain ⟨hi26, hw⟩ := hw
    refine va_iald (D := D) hx hb hK hP 4 0 rfl rfl hi26 dX7_order_26 ?_
    refine lv_icmp_ge (tgt := 34) hx hb dX7_order_27 (by decide) (fun hc27 => ?_) (fun hc27 => ?_)
    · have hw := hw.1 hc27
      refine lv_iconst (v := 1) hx hb dX7_order_34 (by decide) ?_
      exact mj_X7_order_35 C th sz sd ss pr me ab be pi le sg wo post  _ _ _ _ hw hP hS (lv_sub hl [] rfl)
    · have hw := hw.2 hc27
      refine lv_iconst (v := (-1)) hx hb dX7_order_30 (by decide) ?_
      refine lv_goto (tgt := 35) hx hb dX7_order_31 (by decide) ?_
      exact mj_X7_order_35 C th sz sd ss pr me ab be pi le sg wo post  _ _ _ _ hw hP hS (lv_sub hl [] rfl)
end X7RUN_x7a
