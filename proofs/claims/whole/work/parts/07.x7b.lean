section X7RUN_x7b
variable {p : Program} {l : Launch} {e : Env} {s : State} {m : MethodId} {args : Array Value} {below : List Frame} {meth : Method} {c : Code} {D : va_G} {cI : ClassId} {q : Nat → Nat}
-- ===== ExactFilterModel.plus
abbrev rX7_plus : Room := { frames := 1, cells := 0, slots := 0, locals := 24 }
def wl_X7_plus_38  (post : (Nat → Int32) → (Nat → Int32) → (Nat → Int32) → Prop) (K90 : (Nat → Int32) → (Nat → Int32) → (Nat → Int32) → Int32 → Int32 → Int32 → Prop) : Nat → (Nat → Int32) → (Nat → Int32) → (Nat → Int32) → Int32 → Int32 → Int32 → Int32 → Int32 → Int32 → Prop
  | 0, _, _, _, _, _, _, _, _, _ => False
  | n + 1, pi, le, wo, x1, x2, x3, x4, x5, x6 => (x4 ≤ x6 → K90 pi le wo x1 x4 x5) ∧ (¬ x4 ≤ x6 → wp_X7_digit pi le x2 x6 (fun (r_49 : Int32) => wp_X7_digit pi le x3 x6 (fun (r_56 : Int32) => ∀ (x7_63 : Int32), x7_63 = ((r_49 + r_56) + x5) → vp_in x6 3010 ∧ ∀ (x5_82 : Int32), x5_82 = (x7_63 >>> ((16 : Int32) &&& 31)) → ∀ (x6_84 : Int32), x6_84 = x6 + 1 → wl_X7_plus_38  post K90 n pi le (upd wo (x6 : Int32).toNatClampNeg (x7_63 &&& 65535)) x1 x2 x3 x4 x5_82 x6_84)))
def wj_X7_plus_30  (post : (Nat → Int32) → (Nat → Int32) → (Nat → Int32) → Prop)  (pi : Nat → Int32) (le : Nat → Int32) (wo : Nat → Int32) (x1 : Int32) (x2 : Int32) (x3 : Int32) (s0 : Int32) : Prop := ∃ n38 : Nat, wl_X7_plus_38  post (fun (pi : Nat → Int32) (le : Nat → Int32) (wo : Nat → Int32) (x1 : Int32) (x4 : Int32) (x5 : Int32) => vp_in x4 3010 ∧ wp_X7_take pi le (upd wo (x4 : Int32).toNatClampNeg x5) x1 (x4 + 1) (fun (pi_105 : Nat → Int32) (le_105 : Nat → Int32) => post pi_105 le_105 (upd wo (x4 : Int32).toNatClampNeg x5))) n38 pi le wo x1 x2 x3 s0 0 0
def wp_X7_plus (pi : Nat → Int32) (le : Nat → Int32) (wo : Nat → Int32) (x1 : Int32) (x2 : Int32) (x3 : Int32) (post : (Nat → Int32) → (Nat → Int32) → (Nat → Int32) → Prop) : Prop := vp_in x2 64 ∧ vp_in x3 64 ∧ ((le (x2 : Int32).toNatClampNeg) ≤ (le (x3 : Int32).toNatClampNeg) → vp_in x3 64 ∧ wj_X7_plus_30  post  pi le wo x1 x2 x3 (le (x3 : Int32).toNatClampNeg)) ∧ (¬ (le (x2 : Int32).toNatClampNeg) ≤ (le (x3 : Int32).toNatClampNeg) → vp_in x2 64 ∧ wj_X7_plus_30  post  pi le wo x1 x2 x3 (le (x2 : Int32).toNatClampNeg))
set_option maxHeartbeats 4000000 in
set_option maxRecDepth 100000 in
theorem ml_X7_plus_38 (C : C7 p s m args meth c D cI q cX7_plus 8 none) (th : Int32) (sz : Int32) (sd : Int32) (ss : Int32) (pr : Int32) (me : Int32) (ab : Nat → Int32) (be : Nat → Int32) (sg : Nat → Int32) (post : (Nat → Int32) → (Nat → Int32) → (Nat → Int32) → Prop) (K90 : (Nat → Int32) → (Nat → Int32) → (Nat → Int32) → Int32 → Int32 → Int32 → Prop)
    (hK90 : (∀ (pi : Nat → Int32) (le : Nat → Int32) (wo : Nat → Int32) (x1 : Int32) (x4 : Int32) (x5 : Int32) (H : Heap) (locs : List Loc) (ls : Array Slot), K90 pi le wo x1 x4 x5 → va_P D vwCl (w7 cI q th sz sd ss pr me ab be pi le sg wo) H → va_S (A7 q) s.heap H locs → lv_has ls 8 [(0, .ref (q 0)), (1, .int x1), (4, .int x4), (5, .int x5)] → W p l e rX7_plus s m args below meth c H locs 0 0 (MQ below (va_Qv (S := (Nat → Int32) × (Nat → Int32) × (Nat → Int32)) (fun u => post u.1 u.2.1 u.2.2) (fun u t => va_P D vwCl (w7 cI q th sz sd ss pr me ab be u.1 u.2.1 sg u.2.2) t.heap) (A7 q)) args s 0 0 (A7 q)) (F0 m 90 ls []))) :
    ∀ (n : Nat) (pi : Nat → Int32) (le : Nat → Int32) (wo : Nat → Int32) (x1 : Int32) (x2 : Int32) (x3 : Int32) (x4 : Int32) (x5 : Int32) (x6 : Int32) (H : Heap) (locs : List Loc) (ls : Array Slot), wl_X7_plus_38  post K90 n pi le wo x1 x2 x3 x4 x5 x6 → va_P D vwCl (w7 cI q th sz sd ss pr me ab be pi le sg wo) H → va_S (A7 q) s.heap H locs → lv_has ls 8 [(0, .ref (q 0)), (1, .int x1), (2, .int x2), (3, .int x3), (4, .int x4), (5, .int x5), (6, .int x6)] → W p l e rX7_plus s m args below meth c H locs 0 0 (MQ below (va_Qv (S := (Nat → Int32) × (Nat → Int32) × (Nat → Int32)) (fun u => post u.1 u.2.1 u.2.2) (fun u t => va_P D vwCl (w7 cI q th sz sd ss pr me ab be u.1 u.2.1 sg u.2.2) t.heap) (A7 q)) args s 0 0 (A7 q)) (F0 m 38 ls []) := by
  obtain ⟨hx, hb, hr, hml, hown, hg, hlocks, hK, hap⟩ := id C
  intro n
  induction n with
  | zero => intro pi le wo x1 x2 x3 x4 x5 x6 H locs ls hw; exact absurd hw id
  | succ n ih =>
    intro pi le wo x1 x2 x3 x4 x5 x6 H locs ls hw hP hS hl
    refine lv_iload hx hb dX7_plus_38 (lv_at hl 6 rfl) ?_
    refine lv_iload hx hb dX7_plus_40 (lv_at hl 4 rfl) ?_
    refine lv_icmp_ge (tgt := 90) hx hb dX7_plus_42 (by decide) (fun hc42 => ?_) (fun hc42 => ?_)
    · have hw := hw.1 hc42
      exact hK90 _ _ _ _ _ _ _ _ _ hw hP hS (lv_sub hl [0, 1, 4, 5] rfl)
    · have hw := hw.2 hc42
      refine lv_aload_n hx hb dX7_plus_45 rfl (lv_at hl 0 rfl) ?_
      refine lv_iload_n hx hb dX7_plus_46 rfl (lv_at hl 2 rfl) ?_
      refine lv_iload hx hb dX7_plus_47 (lv_at hl 6 rfl) ?_
      refine va_calli (va_runV (As := [.int x2, .int x6]) (rest := []) ⟨hx, hb, hml, hown, hg⟩ (m_X7_digit l D cI q th sz sd ss pr me ab be pi le sg wo x2 x6 _ hw) (cwV 2 hg (x_gV km_X7_62 ki_X7_digit kz_X7_X7_digit kn_X7 kk_X7_digit) rfl rfl rfl (by decide +kernel) ⟨Nat.le_of_ble_eq_true rfl, Nat.le_of_ble_eq_true rfl⟩) (pre7V hP hK hap [.int x2, .int x6]) rfl rfl hl.1 rfl (lv_room (Nat.le_of_ble_eq_true rfl)) dX7_plus_49 ⟨Nat.zero_le _, Nat.zero_le _⟩) hS (fun _ _ h => h) (fun _ h => h) (fun r_49 u t H locs ht hvm hw hP hz1 hk1 hS => ?_)
      rw [ht] at hP; clear hz1 hk1 ht hvm
      try dsimp only at hw
      try dsimp only at hP
      refine lv_aload_n hx hb dX7_plus_52 rfl (lv_at hl 0 rfl) ?_
      refine lv_iload_n hx hb dX7_plus_53 rfl (lv_at hl 3 rfl) ?_
      refine lv_iload hx hb dX7_plus_54 (lv_at hl 6 rfl) ?_
      refine va_calli (va_runV (As := [.int x3, .int x6]) (rest := [.int r_49]) ⟨hx, hb, hml, hown, hg⟩ (m_X7_digit l D cI q th sz sd ss pr me ab be pi le sg wo x3 x6 _ hw) (cwV 2 hg (x_gV km_X7_62 ki_X7_digit kz_X7_X7_digit kn_X7 kk_X7_digit) rfl rfl rfl (by decide +kernel) ⟨Nat.le_of_ble_eq_true rfl, Nat.le_of_ble_eq_true rfl⟩) (pre7V hP hK hap [.int x3, .int x6]) rfl rfl hl.1 rfl (lv_room (Nat.le_of_ble_eq_true rfl)) dX7_plus_56 ⟨Nat.zero_le _, Nat.zero_le _⟩) hS (fun _ _ h => h) (fun _ h => h) (fun r_56 u t H locs ht hvm hw hP hz1 hk1 hS => ?_)
      rw [ht] at hP; clear hz1 hk1 ht hvm
      try dsimp only at hw
      try dsimp only at hP
      refine lv_iadd hx hb dX7_plus_59 ?_
      refine lv_iload hx hb dX7_plus_60 (lv_at hl 5 rfl) ?_
      refine lv_iadd hx hb dX7_plus_62 ?_
      refine lv_topi (fun x7_63 ex7_63 => ?_)
      have hw := hw x7_63 ex7_63
      refine lv_istore (lv' := [(7, .int x7_63), (0, .ref (q 0)), (1, .int x1), (2, .int x2), (3, .int x3), (4, .int x4), (5, .int x5), (6, .int x6)]) hx hb dX7_plus_63 hl (by decide) rfl (fun ls hl => ?_)
      refine lv_aload_n hx hb dX7_plus_65 rfl (lv_at hl 1 rfl) ?_
      refine va_get (D := D) (ci := 7) (v := .ref (q 6)) (C := RX7) (T := TX7) (N := 12) hx hb hg ku_X7 hown hK hP 0 rfl rfl 11 (by decide) (hg _ kf_X7_46) (fun _ h9 => h9) rfl dX7_plus_66 ?_
      refine lv_iload hx hb dX7_plus_69 (lv_at hl 7 rfl) ?_
      refine lv_iload hx hb dX7_plus_71 (lv_at hl 0 rfl) ?_
      refine lv_ldc (v := 65535) hx hb hown (hg _ kc_X7_57) dX7_plus_73 ?_
      refine lv_iand hx hb dX7_plus_75 ?_
      obtain ⟨hi76, hw⟩ := hw
      refine va_iast (D := D) hx hb hK hP (D7 hap) hS 6 0 rfl rfl hi76 dX7_plus_76 (fun H locs hP _ hS => ?_)
      have hP : va_P D vwCl (w7 cI q th sz sd ss pr me ab be pi le sg (upd wo (x6 : Int32).toNatClampNeg (x7_63 &&& 65535))) H := hP
      refine lv_iload hx hb dX7_plus_77 (lv_at hl 0 rfl) ?_
      refine lv_bipush (v := 16) hx hb dX7_plus_79 (by decide) ?_
      refine lv_ishr hx hb dX7_plus_81 ?_
      refine lv_topi (fun x5_82 ex5_82 => ?_)
      have hw := hw x5_82 ex5_82
      refine lv_istore (lv' := [(5, .int x5_82), (7, .int x7_63), (0, .ref (q 0)), (1, .int x1), (2, .int x2), (3, .int x3), (4, .int x4), (6, .int x6)]) hx hb dX7_plus_82 hl (by decide) rfl (fun ls hl => ?_)
      obtain ⟨x6_84, ex6_84⟩ : ∃ y : Int32, y = x6 + 1 := ⟨_, rfl⟩
      have hw := hw x6_84 ex6_84
      refine lv_iinc (v := x6_84) (lv' := [(6, .int x6_84), (5, .int x5_82), (7, .int x7_63), (0, .ref (q 0)), (1, .int x1), (2, .int x2), (3, .int x3), (4, .int x4)]) hx hb dX7_plus_84 hl (k := 7) rfl (by rw [ex6_84]; rfl) (by decide) rfl (fun ls hl => ?_)
      refine lv_goto (tgt := 38) hx hb dX7_plus_87 (by decide) ?_
      exact ih _ _ _ _ _ _ _ _ _ _ _ _ hw hP hS (lv_sub hl [3, 4, 5, 6, 7, 1, 0] rfl)
set_option maxHeartbeats 4000000 in
set_option maxRecDepth 100000 in
theorem mj_X7_plus_30 (C : C7 p s m args meth c D cI q cX7_plus 8 none) (th : Int32) (sz : Int32) (sd : Int32) (ss : Int32) (pr : Int32) (me : Int32) (ab : Nat → Int32) (be : Nat → Int32) (sg : Nat → Int32) (post : (Nat → Int32) → (Nat → Int32) → (Nat → Int32) → Prop) 
    
    (pi : Nat → Int32) (le : Nat → Int32) (wo : Nat → Int32) (x1 : Int32) (x2 : Int32) (x3 : Int32) (s0 : Int32) (H : Heap) (locs : List Loc) (ls : Array Slot) (hw : wj_X7_plus_30  post  pi le wo x1 x2 x3 s0) (hP : va_P D vwCl (w7 cI q th sz sd ss pr me ab be pi le sg wo) H) (hS : va_S (A7 q) s.heap H locs) (hl : lv_has ls 8 [(0, .ref (q 0)), (1, .int x1), (2, .int x2), (3, .int x3)]) : W p l e rX7_plus s m args below meth c H locs 0 0 (MQ below (va_Qv (S := (Nat → Int32) × (Nat → Int32) × (Nat → Int32)) (fun u => post u.1 u.2.1 u.2.2) (fun u t => va_P D vwCl (w7 cI q th sz sd ss pr me ab be u.1 u.2.1 sg u.2.2) t.heap) (A7 q)) args s 0 0 (A7 q)) (F0 m 30 ls [.int s0]) := by
  obtain ⟨hx, hb, hr, hml, hown, hg, hlocks, hK, hap⟩ := id C
  unfold wj_X7_plus_30 at hw
  refine lv_istore (lv' := [(4, .int s0), (0, .ref (q 0)), (1, .int x1), (2, .int x2), (3, .int x3)]) hx hb dX7_plus_30 hl (by decide) rfl (fun ls hl => ?_)
  refine lv_iconst (v := 0) hx hb dX7_plus_32 (by decide) ?_
  refine lv_istore (lv' := [(5, .int 0), (4, .int s0), (0, .ref (q 0)), (1, .int x1), (2, .int x2), (3, .int x3)]) hx hb dX7_plus_33 hl (by decide) rfl (fun ls hl => ?_)
  refine lv_iconst (v := 0) hx hb dX7_plus_35 (by decide) ?_
  refine lv_istore (lv' := [(6, .int 0), (5, .int 0), (4, .int s0), (0, .ref (q 0)), (1, .int x1), (2, .int x2), (3, .int x3)]) hx hb dX7_plus_36 hl (by decide) rfl (fun ls hl => ?_)
  obtain ⟨n38, hw⟩ := hw
  refine ml_X7_plus_38 C th sz sd ss pr me ab be sg post _ ?_ n38 _ _ _ _ _ _ _ _ _ _ _ _ hw hP hS (lv_sub hl [3, 4, 5, 6, 2, 1, 0] rfl)
  · intro pi le wo x1 x4 x5 H locs ls hw hP hS hl
    refine lv_aload_n hx hb dX7_plus_90 rfl (lv_at hl 0 rfl) ?_
    refine va_get (D := D) (ci := 7) (v := .ref (q 6)) (C := RX7) (T := TX7) (N := 12) hx hb hg ku_X7 hown hK hP 0 rfl rfl 11 (by decide) (hg _ kf_X7_46) (fun _ h9 => h9) rfl dX7_plus_91 ?_
    refine lv_iload hx hb dX7_plus_94 (lv_at hl 2 rfl) ?_
    refine lv_iload hx hb dX7_plus_96 (lv_at hl 3 rfl) ?_
    obtain ⟨hi98, hw⟩ := hw
    refine va_iast (D := D) hx hb hK hP (D7 hap) hS 6 0 rfl rfl hi98 dX7_plus_98 (fun H locs hP _ hS => ?_)
    have hP : va_P D vwCl (w7 cI q th sz sd ss pr me ab be pi le sg (upd wo (x4 : Int32).toNatClampNeg x5)) H := hP
    refine lv_aload_n hx hb dX7_plus_99 rfl (lv_at hl 0 rfl) ?_
    refine lv_iload_n hx hb dX7_plus_100 rfl (lv_at hl 1 rfl) ?_
    refine lv_iload hx hb dX7_plus_101 (lv_at hl 2 rfl) ?_
    refine lv_iconst (v := 1) hx hb dX7_plus_103 (by decide) ?_
    refine lv_iadd hx hb dX7_plus_104 ?_
    refine va_callv (va_runV (As := [.int x1, .int (x4 + 1)]) (rest := []) ⟨hx, hb, hml, hown, hg⟩ (m_X7_take l D cI q th sz sd ss pr me ab be pi le sg (upd wo (x4 : Int32).toNatClampNeg x5) x1 (x4 + 1) _ hw) (cwV 2 hg (x_gV km_X7_58 ki_X7_take kz_X7_X7_take kn_X7 kk_X7_take) rfl rfl rfl (by decide +kernel) ⟨Nat.le_of_ble_eq_true rfl, Nat.le_of_ble_eq_true rfl⟩) (pre7V hP hK hap [.int x1, .int (x4 + 1)]) rfl rfl hl.1 rfl (lv_room (Nat.le_of_ble_eq_true rfl)) dX7_plus_105 ⟨Nat.zero_le _, Nat.zero_le _⟩) hS (fun _ _ h => h) (fun _ h => h) (fun  u t H locs ht hvm hw hP hz1 hk1 hS => ?_)
    obtain ⟨pi_105, le_105⟩ := u
    rw [ht] at hP; clear hz1 hk1 ht hvm
    try dsimp only at hw
    try dsimp only at hP
    exact W.vret hx hb hr (fun t ht hW => ⟨⟨(pi_105, le_105, (upd wo (x4 : Int32).toNatClampNeg x5)), rfl, hw, by show va_P D vwCl _ t.heap; rw [ht]; exact hP⟩, hS.F ht⟩) hS.2.2 dX7_plus_108 hlocks
set_option maxHeartbeats 4000000 in
set_option maxRecDepth 100000 in
theorem m_X7_plus (l : Launch) (D : va_G) (cI : ClassId) (q : Nat → Nat) (th : Int32) (sz : Int32) (sd : Int32) (ss : Int32) (pr : Int32) (me : Int32) (ab : Nat → Int32) (be : Nat → Int32) (pi : Nat → Int32) (le : Nat → Int32) (sg : Nat → Int32) (wo : Nat → Int32) (x1 : Int32) (x2 : Int32) (x3 : Int32) (post : (Nat → Int32) → (Nat → Int32) → (Nat → Int32) → Prop) (hw : wp_X7_plus pi le wo x1 x2 x3 post) : Met l yX7_plus (wu yX7_plus cX7_plus 8 none) rX7_plus (va_Pc [.ref (q 0), .int x1, .int x2, .int x3] (fun U => va_P D vwCl (w7 cI q th sz sd ss pr me ab be pi le sg wo) U.heap ∧ K7 D cI q U)) (va_Qv (S := (Nat → Int32) × (Nat → Int32) × (Nat → Int32)) (fun u => post u.1 u.2.1 u.2.2) (fun u t => va_P D vwCl (w7 cI q th sz sd ss pr me ab be u.1 u.2.1 sg u.2.2) t.heap) (A7 q)) 0 0 (A7 q) := by
  refine Met.ofW (cc := cX7_plus) (maxL := 8) (ret := none) (by decide) rfl ?_
  intro p e s m args below meth c s₁ B hml hv
  obtain ⟨rfl, hP, hK, hap⟩ := hv
  have C : C7 p s m _ meth c D cI q cX7_plus 8 none := ⟨B.exec, B.bytes, B.returns, hml, findClass_of_methodNamed B.named, x_hg (atoms_spec (ws := wu yX7_plus cX7_plus 8 none) B.pre), B.notSynchronized, hK, hap⟩
  obtain ⟨hx, hb, hr, hml, hown, hg, hlocks, hK, hap⟩ := id C
  have hS : va_S (A7 q) s.heap s.heap [] := va_S.rf
  have hl := lv_entry ([.ref (q 0), .int x1, .int x2, .int x3]) (n := 8) (Nat.le_of_ble_eq_true rfl)
  rw [lg_entry_eq]
  generalize (lg_sl ([.ref (q 0), .int x1, .int x2, .int x3]) ++ List.replicate (8 - (lg_sl ([.ref (q 0), .int x1, .int x2, .int x3])).length) Slot.unset).toArray = ls at hl ⊢
  have hl : lv_has ls 8 [(0, .ref (q 0)), (1, .int x1), (2, .int x2), (3, .int x3)] := hl
  unfold wp_X7_plus at hw
  refine lv_aload_n hx hb dX7_plus_0 rfl (lv_at hl 0 rfl) ?_
  refine va_get (D := D) (ci := 7) (v := .ref (q 4)) (C := RX7) (T := TX7) (N := 12) hx hb hg ku_X7 hown hK hP 0 rfl rfl 9 (by decide) (hg _ kf_X7_40) (fun _ h9 => h9) rfl dX7_plus_1 ?_
  refine lv_iload_n hx hb dX7_plus_4 rfl (lv_at hl 2 rfl) ?_
  obtain ⟨hi5, hw⟩ := hw
  refine va_iald (D := D) hx hb hK hP 4 0 rfl rfl hi5 dX7_plus_5 ?_
  refine lv_aload_n hx hb dX7_plus_6 rfl (lv_at hl 0 rfl) ?_
  refine va_get (D := D) (ci := 7) (v := .ref (q 4)) (C := RX7) (T := TX7) (N := 12) hx hb hg ku_X7 hown hK hP 0 rfl rfl 9 (by decide) (hg _ kf_X7_40) (fun _ h9 => h9) rfl dX7_plus_7 ?_
  refine lv_iload_n hx hb dX7_plus_10 rfl (lv_at hl 3 rfl) ?_
  obtain ⟨hi11, hw⟩ := hw
  refine va_iald (D := D) hx hb hK hP 4 0 rfl rfl hi11 dX7_plus_11 ?_
  refine lv_icmp_le (tgt := 24) hx hb dX7_plus_12 (by decide) (fun hc12 => ?_) (fun hc12 => ?_)
  · have hw := hw.1 hc12
    refine lv_aload_n hx hb dX7_plus_24 rfl (lv_at hl 0 rfl) ?_
    refine va_get (D := D) (ci := 7) (v := .ref (q 4)) (C := RX7) (T := TX7) (N := 12) hx hb hg ku_X7 hown hK hP 0 rfl rfl 9 (by decide) (hg _ kf_X7_40) (fun _ h9 => h9) rfl dX7_plus_25 ?_
    refine lv_iload_n hx hb dX7_plus_28 rfl (lv_at hl 3 rfl) ?_
    obtain ⟨hi29, hw⟩ := hw
    refine va_iald (D := D) hx hb hK hP 4 0 rfl rfl hi29 dX7_plus_29 ?_
    exact mj_X7_plus_30 C th sz sd ss pr me ab be sg post  _ _ _ _ _ _ _ _ _ _ hw hP hS (lv_sub hl [0, 1, 2, 3] rfl)
  · have hw := hw.2 hc12
    refine lv_aload_n hx hb dX7_plus_15 rfl (lv_at hl 0 rfl) ?_
    refine va_get (D := D) (ci := 7) (v := .ref (q 4)) (C := RX7) (T := TX7) (N := 12) hx hb hg ku_X7 hown hK hP 0 rfl rfl 9 (by decide) (hg _ kf_X7_40) (fun _ h9 => h9) rfl dX7_plus_16 ?_
    refine lv_iload_n hx hb dX7_plus_19 rfl (lv_at hl 2 rfl) ?_
    obtain ⟨hi20, hw⟩ := hw
    refine va_iald (D := D) hx hb hK hP 4 0 rfl rfl hi20 dX7_plus_20 ?_
    refine lv_goto (tgt := 30) hx hb dX7_plus_21 (by decide) ?_
    exact mj_X7_plus_30 C th sz sd ss pr me ab be sg post  _ _ _ _ _ _ _ _ _ _ hw hP hS (lv_sub hl [0, 1, 2, 3] rfl)
-- ===== ExactFilterModel.minus
abbrev rX7_minus : Room := { frames := 1, cells := 0, slots := 0, locals := 24 }
def wj_X7_minus_63  (post : (Nat → Int32) → (Nat → Int32) → (Nat → Int32) → Prop) (Rc : (Nat → Int32) → (Nat → Int32) → (Nat → Int32) → Int32 → Int32 → Int32 → Int32 → Int32 → Int32 → Prop) (K71 : (Nat → Int32) → (Nat → Int32) → (Nat → Int32) → Int32 → Int32 → Prop) (pi : Nat → Int32) (le : Nat → Int32) (wo : Nat → Int32) (x1 : Int32) (x2 : Int32) (x3 : Int32) (x5 : Int32) (x6 : Int32) (s0 : Int32) : Prop := ∀ (x6_65 : Int32), x6_65 = x6 + 1 → Rc pi le wo x1 x2 x3 s0 x5 x6_65
def wl_X7_minus_14  (post : (Nat → Int32) → (Nat → Int32) → (Nat → Int32) → Prop) (K71 : (Nat → Int32) → (Nat → Int32) → (Nat → Int32) → Int32 → Int32 → Prop) : Nat → (Nat → Int32) → (Nat → Int32) → (Nat → Int32) → Int32 → Int32 → Int32 → Int32 → Int32 → Int32 → Prop
  | 0, _, _, _, _, _, _, _, _, _ => False
  | n + 1, pi, le, wo, x1, x2, x3, x4, x5, x6 => (x5 ≤ x6 → K71 pi le wo x1 x5) ∧ (¬ x5 ≤ x6 → wp_X7_digit pi le x2 x6 (fun (r_25 : Int32) => wp_X7_digit pi le x3 x6 (fun (r_32 : Int32) => ∀ (x7_39 : Int32), x7_39 = ((r_25 - r_32) - x4) → vp_in x6 3010 ∧ (0 ≤ x7_39 → wj_X7_minus_63  post (wl_X7_minus_14  post K71 n) K71 pi le (upd wo (x6 : Int32).toNatClampNeg (x7_39 &&& 65535)) x1 x2 x3 x5 x6 0) ∧ (¬ 0 ≤ x7_39 → wj_X7_minus_63  post (wl_X7_minus_14  post K71 n) K71 pi le (upd wo (x6 : Int32).toNatClampNeg (x7_39 &&& 65535)) x1 x2 x3 x5 x6 1))))
def wp_X7_minus (pi : Nat → Int32) (le : Nat → Int32) (wo : Nat → Int32) (x1 : Int32) (x2 : Int32) (x3 : Int32) (post : (Nat → Int32) → (Nat → Int32) → (Nat → Int32) → Prop) : Prop := vp_in x2 64 ∧ ∀ (x5_9 : Int32), x5_9 = (le (x2 : Int32).toNatClampNeg) → ∃ n14 : Nat, wl_X7_minus_14  post (fun (pi : Nat → Int32) (le : Nat → Int32) (wo : Nat → Int32) (x1 : Int32) (x5 : Int32) => wp_X7_take pi le wo x1 x5 (fun (pi_75 : Nat → Int32) (le_75 : Nat → Int32) => post pi_75 le_75 wo)) n14 pi le wo x1 x2 x3 0 x5_9 0
set_option maxHeartbeats 4000000 in
set_option maxRecDepth 100000 in
theorem mj_X7_minus_63 (C : C7 p s m args meth c D cI q cX7_minus 8 none) (th : Int32) (sz : Int32) (sd : Int32) (ss : Int32) (pr : Int32) (me : Int32) (ab : Nat → Int32) (be : Nat → Int32) (sg : Nat → Int32) (post : (Nat → Int32) → (Nat → Int32) → (Nat → Int32) → Prop) (Rc : (Nat → Int32) → (Nat → Int32) → (Nat → Int32) → Int32 → Int32 → Int32 → Int32 → Int32 → Int32 → Prop) (K71 : (Nat → Int32) → (Nat → Int32) → (Nat → Int32) → Int32 → Int32 → Prop)
    (hRc : (∀ (pi : Nat → Int32) (le : Nat → Int32) (wo : Nat → Int32) (x1 : Int32) (x2 : Int32) (x3 : Int32) (x4 : Int32) (x5 : Int32) (x6 : Int32) (H : Heap) (locs : List Loc) (ls : Array Slot), Rc pi le wo x1 x2 x3 x4 x5 x6 → va_P D vwCl (w7 cI q th sz sd ss pr me ab be pi le sg wo) H → va_S (A7 q) s.heap H locs → lv_has ls 8 [(0, .ref (q 0)), (1, .int x1), (2, .int x2), (3, .int x3), (4, .int x4), (5, .int x5), (6, .int x6)] → W p l e rX7_minus s m args below meth c H locs 0 0 (MQ below (va_Qv (S := (Nat → Int32) × (Nat → Int32) × (Nat → Int32)) (fun u => post u.1 u.2.1 u.2.2) (fun u t => va_P D vwCl (w7 cI q th sz sd ss pr me ab be u.1 u.2.1 sg u.2.2) t.heap) (A7 q)) args s 0 0 (A7 q)) (F0 m 14 ls [])))
    (hK71 : (∀ (pi : Nat → Int32) (le : Nat → Int32) (wo : Nat → Int32) (x1 : Int32) (x5 : Int32) (H : Heap) (locs : List Loc) (ls : Array Slot), K71 pi le wo x1 x5 → va_P D vwCl (w7 cI q th sz sd ss pr me ab be pi le sg wo) H → va_S (A7 q) s.heap H locs → lv_has ls 8 [(0, .ref (q 0)), (1, .int x1), (5, .int x5)] → W p l e rX7_minus s m args below meth c H locs 0 0 (MQ below (va_Qv (S := (Nat → Int32) × (Nat → Int32) × (Nat → Int32)) (fun u => post u.1 u.2.1 u.2.2) (fun u t => va_P D vwCl (w7 cI q th sz sd ss pr me ab be u.1 u.2.1 sg u.2.2) t.heap) (A7 q)) args s 0 0 (A7 q)) (F0 m 71 ls [])))
    (pi : Nat → Int32) (le : Nat → Int32) (wo : Nat → Int32) (x1 : Int32) (x2 : Int32) (x3 : Int32) (x5 : Int32) (x6 : Int32) (s0 : Int32) (H : Heap) (locs : List Loc) (ls : Array Slot) (hw : wj_X7_minus_63  post Rc K71 pi le wo x1 x2 x3 x5 x6 s0) (hP : va_P D vwCl (w7 cI q th sz sd ss pr me ab be pi le sg wo) H) (hS : va_S (A7 q) s.heap H locs) (hl : lv_has ls 8 [(0, .ref (q 0)), (1, .int x1), (2, .int x2), (3, .int x3), (5, .int x5), (6, .int x6)]) : W p l e rX7_minus s m args below meth c H locs 0 0 (MQ below (va_Qv (S := (Nat → Int32) × (Nat → Int32) × (Nat → Int32)) (fun u => post u.1 u.2.1 u.2.2) (fun u t => va_P D vwCl (w7 cI q th sz sd ss pr me ab be u.1 u.2.1 sg u.2.2) t.heap) (A7 q)) args s 0 0 (A7 q)) (F0 m 63 ls [.int s0]) := by
  obtain ⟨hx, hb, hr, hml, hown, hg, hlocks, hK, hap⟩ := id C
  unfold wj_X7_minus_63 at hw
  refine lv_istore (lv' := [(4, .int s0), (0, .ref (q 0)), (1, .int x1), (2, .int x2), (3, .int x3), (5, .int x5), (6, .int x6)]) hx hb dX7_minus_63 hl (by decide) rfl (fun ls hl => ?_)
  obtain ⟨x6_65, ex6_65⟩ : ∃ y : Int32, y = x6 + 1 := ⟨_, rfl⟩
  have hw := hw x6_65 ex6_65
  refine lv_iinc (v := x6_65) (lv' := [(6, .int x6_65), (4, .int s0), (0, .ref (q 0)), (1, .int x1), (2, .int x2), (3, .int x3), (5, .int x5)]) hx hb dX7_minus_65 hl (k := 6) rfl (by rw [ex6_65]; rfl) (by decide) rfl (fun ls hl => ?_)
  refine lv_goto (tgt := 14) hx hb dX7_minus_68 (by decide) ?_
  exact hRc _ _ _ _ _ _ _ _ _ _ _ _ hw hP hS (lv_sub hl [2, 3, 4, 5, 1, 6, 0] rfl)
set_option maxHeartbeats 4000000 in
set_option maxRecDepth 100000 in
theorem ml_X7_minus_14 (C : C7 p s m args meth c D cI q cX7_minus 8 none) (th : Int32) (sz : Int32) (sd : Int32) (ss : Int32) (pr : Int32) (me : Int32) (ab : Nat → Int32) (be : Nat → Int32) (sg : Nat → Int32) (post : (Nat → Int32) → (Nat → Int32) → (Nat → Int32) → Prop) (K71 : (Nat → Int32) → (Nat → Int32) → (Nat → Int32) → Int32 → Int32 → Prop)
    (hK71 : (∀ (pi : Nat → Int32) (le : Nat → Int32) (wo : Nat → Int32) (x1 : Int32) (x5 : Int32) (H : Heap) (locs : List Loc) (ls : Array Slot), K71 pi le wo x1 x5 → va_P D vwCl (w7 cI q th sz sd ss pr me ab be pi le sg wo) H → va_S (A7 q) s.heap H locs → lv_has ls 8 [(0, .ref (q 0)), (1, .int x1), (5, .int x5)] → W p l e rX7_minus s m args below meth c H locs 0 0 (MQ below (va_Qv (S := (Nat → Int32) × (Nat → Int32) × (Nat → Int32)) (fun u => post u.1 u.2.1 u.2.2) (fun u t => va_P D vwCl (w7 cI q th sz sd ss pr me ab be u.1 u.2.1 sg u.2.2) t.heap) (A7 q)) args s 0 0 (A7 q)) (F0 m 71 ls []))) :
    ∀ (n : Nat) (pi : Nat → Int32) (le : Nat → Int32) (wo : Nat → Int32) (x1 : Int32) (x2 : Int32) (x3 : Int32) (x4 : Int32) (x5 : Int32) (x6 : Int32) (H : Heap) (locs : List Loc) (ls : Array Slot), wl_X7_minus_14  post K71 n pi le wo x1 x2 x3 x4 x5 x6 → va_P D vwCl (w7 cI q th sz sd ss pr me ab be pi le sg wo) H → va_S (A7 q) s.heap H locs → lv_has ls 8 [(0, .ref (q 0)), (1, .int x1), (2, .int x2), (3, .int x3), (4, .int x4), (5, .int x5), (6, .int x6)] → W p l e rX7_minus s m args below meth c H locs 0 0 (MQ below (va_Qv (S := (Nat → Int32) × (Nat → Int32) × (Nat → Int32)) (fun u => post u.1 u.2.1 u.2.2) (fun u t => va_P D vwCl (w7 cI q th sz sd ss pr me ab be u.1 u.2.1 sg u.2.2) t.heap) (A7 q)) args s 0 0 (A7 q)) (F0 m 14 ls []) := by
  obtain ⟨hx, hb, hr, hml, hown, hg, hlocks, hK, hap⟩ := id C
  intro n
  induction n with
  | zero => intro pi le wo x1 x2 x3 x4 x5 x6 H locs ls hw; exact absurd hw id
  | succ n ih =>
    intro pi le wo x1 x2 x3 x4 x5 x6 H locs ls hw hP hS hl
    refine lv_iload hx hb dX7_minus_14 (lv_at hl 6 rfl) ?_
    refine lv_iload hx hb dX7_minus_16 (lv_at hl 5 rfl) ?_
    refine lv_icmp_ge (tgt := 71) hx hb dX7_minus_18 (by decide) (fun hc18 => ?_) (fun hc18 => ?_)
    · have hw := hw.1 hc18
      exact hK71 _ _ _ _ _ _ _ _ hw hP hS (lv_sub hl [0, 1, 5] rfl)
    · have hw := hw.2 hc18
      refine lv_aload_n hx hb dX7_minus_21 rfl (lv_at hl 0 rfl) ?_
      refine lv_iload_n hx hb dX7_minus_22 rfl (lv_at hl 2 rfl) ?_
      refine lv_iload hx hb dX7_minus_23 (lv_at hl 6 rfl) ?_
      refine va_calli (va_runV (As := [.int x2, .int x6]) (rest := []) ⟨hx, hb, hml, hown, hg⟩ (m_X7_digit l D cI q th sz sd ss pr me ab be pi le sg wo x2 x6 _ hw) (cwV 2 hg (x_gV km_X7_62 ki_X7_digit kz_X7_X7_digit kn_X7 kk_X7_digit) rfl rfl rfl (by decide +kernel) ⟨Nat.le_of_ble_eq_true rfl, Nat.le_of_ble_eq_true rfl⟩) (pre7V hP hK hap [.int x2, .int x6]) rfl rfl hl.1 rfl (lv_room (Nat.le_of_ble_eq_true rfl)) dX7_minus_25 ⟨Nat.zero_le _, Nat.zero_le _⟩) hS (fun _ _ h => h) (fun _ h => h) (fun r_25 u t H locs ht hvm hw hP hz1 hk1 hS => ?_)
      rw [ht] at hP; clear hz1 hk1 ht hvm
      try dsimp only at hw
      try dsimp only at hP
      refine lv_aload_n hx hb dX7_minus_28 rfl (lv_at hl 0 rfl) ?_
      refine lv_iload_n hx hb dX7_minus_29 rfl (lv_at hl 3 rfl) ?_
      refine lv_iload hx hb dX7_minus_30 (lv_at hl 6 rfl) ?_
      refine va_calli (va_runV (As := [.int x3, .int x6]) (rest := [.int r_25]) ⟨hx, hb, hml, hown, hg⟩ (m_X7_digit l D cI q th sz sd ss pr me ab be pi le sg wo x3 x6 _ hw) (cwV 2 hg (x_gV km_X7_62 ki_X7_digit kz_X7_X7_digit kn_X7 kk_X7_digit) rfl rfl rfl (by decide +kernel) ⟨Nat.le_of_ble_eq_true rfl, Nat.le_of_ble_eq_true rfl⟩) (pre7V hP hK hap [.int x3, .int x6]) rfl rfl hl.1 rfl (lv_room (Nat.le_of_ble_eq_true rfl)) dX7_minus_32 ⟨Nat.zero_le _, Nat.zero_le _⟩) hS (fun _ _ h => h) (fun _ h => h) (fun r_32 u t H locs ht hvm hw hP hz1 hk1 hS => ?_)
      rw [ht] at hP; clear hz1 hk1 ht hvm
      try dsimp only at hw
      try dsimp only at hP
      refine lv_isub hx hb dX7_minus_35 ?_
      refine lv_iload hx hb dX7_minus_36 (lv_at hl 4 rfl) ?_
      refine lv_isub hx hb dX7_minus_38 ?_
      refine lv_topi (fun x7_39 ex7_39 => ?_)
      have hw := hw x7_39 ex7_39
      refine lv_istore (lv' := [(7, .int x7_39), (0, .ref (q 0)), (1, .int x1), (2, .int x2), (3, .int x3), (4, .int x4), (5, .int x5), (6, .int x6)]) hx hb dX7_minus_39 hl (by decide) rfl (fun ls hl => ?_)
      refine lv_aload_n hx hb dX7_minus_41 rfl (lv_at hl 1 rfl) ?_
      refine va_get (D := D) (ci := 7) (v := .ref (q 6)) (C := RX7) (T := TX7) (N := 12) hx hb hg ku_X7 hown hK hP 0 rfl rfl 11 (by decide) (hg _ kf_X7_46) (fun _ h9 => h9) rfl dX7_minus_42 ?_
      refine lv_iload hx hb dX7_minus_45 (lv_at hl 7 rfl) ?_
      refine lv_iload hx hb dX7_minus_47 (lv_at hl 0 rfl) ?_
      refine lv_ldc (v := 65535) hx hb hown (hg _ kc_X7_57) dX7_minus_49 ?_
      refine lv_iand hx hb dX7_minus_51 ?_
      obtain ⟨hi52, hw⟩ := hw
      refine va_iast (D := D) hx hb hK hP (D7 hap) hS 6 0 rfl rfl hi52 dX7_minus_52 (fun H locs hP _ hS => ?_)
      have hP : va_P D vwCl (w7 cI q th sz sd ss pr me ab be pi le sg (upd wo (x6 : Int32).toNatClampNeg (x7_39 &&& 65535))) H := hP
      refine lv_iload hx hb dX7_minus_53 (lv_at hl 0 rfl) ?_
      refine lv_if_ge (tgt := 62) hx hb dX7_minus_55 (by decide) (fun hc55 => ?_) (fun hc55 => ?_)
      · have hw := hw.1 hc55
        refine lv_iconst (v := 0) hx hb dX7_minus_62 (by decide) ?_
        exact mj_X7_minus_63 C th sz sd ss pr me ab be sg post _ _ (ih) hK71 _ _ _ _ _ _ _ _ _ _ _ _ hw hP hS (lv_sub hl [1, 2, 3, 4, 6, 7] rfl)
      · have hw := hw.2 hc55
        refine lv_iconst (v := 1) hx hb dX7_minus_58 (by decide) ?_
        refine lv_goto (tgt := 63) hx hb dX7_minus_59 (by decide) ?_
        exact mj_X7_minus_63 C th sz sd ss pr me ab be sg post _ _ (ih) hK71 _ _ _ _ _ _ _ _ _ _ _ _ hw hP hS (lv_sub hl [1, 2, 3, 4, 6, 7] rfl)
set_option maxHeartbeats 4000000 in
set_option maxRecDepth 100000 in
theorem m_X7_minus (l : Launch) (D : va_G) (cI : ClassId) (q : Nat → Nat) (th : Int32) (sz : Int32) (sd : Int32) (ss : Int32) (pr : Int32) (me : Int32) (ab : Nat → Int32) (be : Nat → Int32) (pi : Nat → Int32) (le : Nat → Int32) (sg : Nat → Int32) (wo : Nat → Int32) (x1 : Int32) (x2 : Int32) (x3 : Int32) (post : (Nat → Int32) → (Nat → Int32) → (Nat → Int32) → Prop) (hw : wp_X7_minus pi le wo x1 x2 x3 post) : Met l yX7_minus (wu yX7_minus cX7_minus 8 none) rX7_minus (va_Pc [.ref (q 0), .int x1, .int x2, .int x3] (fun U => va_P D vwCl (w7 cI q th sz sd ss pr me ab be pi le sg wo) U.heap ∧ K7 D cI q U)) (va_Qv (S := (Nat → Int32) × (Nat → Int32) × (Nat → Int32)) (fun u => post u.1 u.2.1 u.2.2) (fun u t => va_P D vwCl (w7 cI q th sz sd ss pr me ab be u.1 u.2.1 sg u.2.2) t.heap) (A7 q)) 0 0 (A7 q) := by
  refine Met.ofW (cc := cX7_minus) (maxL := 8) (ret := none) (by decide) rfl ?_
  intro p e s m args below meth c s₁ B hml hv
  obtain ⟨rfl, hP, hK, hap⟩ := hv
  have C : C7 p s m _ meth c D cI q cX7_minus 8 none := ⟨B.exec, B.bytes, B.returns, hml, findClass_of_methodNamed B.named, x_hg (atoms_spec (ws := wu yX7_minus cX7_minus 8 none) B.pre), B.notSynchronized, hK, hap⟩
  obtain ⟨hx, hb, hr, hml, hown, hg, hlocks, hK, hap⟩ := id C
  have hS : va_S (A7 q) s.heap s.heap [] := va_S.rf
  have hl := lv_entry ([.ref (q 0), .int x1, .int x2, .int x3]) (n := 8) (Nat.le_of_ble_eq_true rfl)
  rw [lg_entry_eq]
  generalize (lg_sl ([.ref (q 0), .int x1, .int x2, .int x3]) ++ List.replicate (8 - (lg_sl ([.ref (q 0), .int x1, .int x2, .int x3])).length) Slot.unset).toArray = ls at hl ⊢
  have hl : lv_has ls 8 [(0, .ref (q 0)), (1, .int x1), (2, .int x2), (3, .int x3)] := hl
  unfold wp_X7_minus at hw
  refine lv_iconst (v := 0) hx hb dX7_minus_0 (by decide) ?_
  refine lv_istore (lv' := [(4, .int 0), (0, .ref (q 0)), (1, .int x1), (2, .int x2), (3, .int x3)]) hx hb dX7_minus_1 hl (by decide) rfl (fun ls hl => ?_)
  refine lv_aload_n hx hb dX7_minus_3 rfl (lv_at hl 1 rfl) ?_
  refine va_get (D := D) (ci := 7) (v := .ref (q 4)) (C := RX7) (T := TX7) (N := 12) hx hb hg ku_X7 hown hK hP 0 rfl rfl 9 (by decide) (hg _ kf_X7_40) (fun _ h9 => h9) rfl dX7_minus_4 ?_
  refine lv_iload_n hx hb dX7_minus_7 rfl (lv_at hl 3 rfl) ?_
  obtain ⟨hi8, hw⟩ := hw
  refine va_iald (D := D) hx hb hK hP 4 0 rfl rfl hi8 dX7_minus_8 ?_
  refine lv_topi (fun x5_9 ex5_9 => ?_)
  have hw := hw x5_9 ex5_9
  refine lv_istore (lv' := [(5, .int x5_9), (4, .int 0), (0, .ref (q 0)), (1, .int x1), (2, .int x2), (3, .int x3)]) hx hb dX7_minus_9 hl (by decide) rfl (fun ls hl => ?_)
  refine lv_iconst (v := 0) hx hb dX7_minus_11 (by decide) ?_
  refine lv_istore (lv' := [(6, .int 0), (5, .int x5_9), (4, .int 0), (0, .ref (q 0)), (1, .int x1), (2, .int x2), (3, .int x3)]) hx hb dX7_minus_12 hl (by decide) rfl (fun ls hl => ?_)
  obtain ⟨n14, hw⟩ := hw
  refine ml_X7_minus_14 C th sz sd ss pr me ab be sg post _ ?_ n14 _ _ _ _ _ _ _ _ _ _ _ _ hw hP hS (lv_sub hl [3, 4, 5, 6, 2, 1, 0] rfl)
  · intro pi le wo x1 x5 H locs ls hw hP hS hl
    refine lv_aload_n hx hb dX7_minus_71 rfl (lv_at hl 0 rfl) ?_
    refine lv_iload_n hx hb dX7_minus_72 rfl (lv_at hl 1 rfl) ?_
    refine lv_iload hx hb dX7_minus_73 (lv_at hl 2 rfl) ?_
    refine va_callv (va_runV (As := [.int x1, .int x5]) (rest := []) ⟨hx, hb, hml, hown, hg⟩ (m_X7_take l D cI q th sz sd ss pr me ab be pi le sg wo x1 x5 _ hw) (cwV 2 hg (x_gV km_X7_58 ki_X7_take kz_X7_X7_take kn_X7 kk_X7_take) rfl rfl rfl (by decide +kernel) ⟨Nat.le_of_ble_eq_true rfl, Nat.le_of_ble_eq_true rfl⟩) (pre7V hP hK hap [.int x1, .int x5]) rfl rfl hl.1 rfl (lv_room (Nat.le_of_ble_eq_true rfl)) dX7_minus_75 ⟨Nat.zero_le _, Nat.zero_le _⟩) hS (fun _ _ h => h) (fun _ h => h) (fun  u t H locs ht hvm hw hP hz1 hk1 hS => ?_)
    obtain ⟨pi_75, le_75⟩ := u
    rw [ht] at hP; clear hz1 hk1 ht hvm
    try dsimp only at hw
    try dsimp only at hP
    exact W.vret hx hb hr (fun t ht hW => ⟨⟨(pi_75, le_75, wo), rfl, hw, by show va_P D vwCl _ t.heap; rw [ht]; exact hP⟩, hS.F ht⟩) hS.2.2 dX7_minus_78 hlocks
-- ===== ExactFilterModel.times
abbrev rX7_times : Room := { frames := 1, cells := 0, slots := 0, locals := 24 }
def wl_X7_times_18  (post : (Nat → Int32) → (Nat → Int32) → (Nat → Int32) → Prop) (K39 : (Nat → Int32) → (Nat → Int32) → (Nat → Int32) → Int32 → Int32 → Int32 → Int32 → Prop) : Nat → (Nat → Int32) → (Nat → Int32) → (Nat → Int32) → Int32 → Int32 → Int32 → Int32 → Int32 → Prop
  | 0, _, _, _, _, _, _, _, _ => False
  | n + 1, pi, le, wo, x1, x2, x3, x4, x5 => (x4 ≤ x5 → K39 pi le wo x1 x2 x3 x4) ∧ (¬ x4 ≤ x5 → vp_in x5 3010 ∧ ∀ (x5_33 : Int32), x5_33 = x5 + 1 → wl_X7_times_18  post K39 n pi le (upd wo (x5 : Int32).toNatClampNeg 0) x1 x2 x3 x4 x5_33)
def wl_X7_times_75  (post : (Nat → Int32) → (Nat → Int32) → (Nat → Int32) → Prop) (K150 : (Nat → Int32) → (Nat → Int32) → (Nat → Int32) → Int32 → Int32 → Int32 → Int32 → Int32 → Int64 → Prop) : Nat → (Nat → Int32) → (Nat → Int32) → (Nat → Int32) → Int32 → Int32 → Int32 → Int32 → Int32 → Int64 → Int64 → Int32 → Prop
  | 0, _, _, _, _, _, _, _, _, _, _, _ => False
  | n + 1, pi, le, wo, x1, x2, x3, x4, x5, x6, x8, x10 => vp_in x3 64 ∧ ((le (x3 : Int32).toNatClampNeg) ≤ x10 → K150 pi le wo x1 x2 x3 x4 x5 x6) ∧ (¬ (le (x3 : Int32).toNatClampNeg) ≤ x10 → vp_in ((1500 * x3) + x10) 96000 ∧ vp_in (x5 + x10) 3010 ∧ ∀ (x11_118 : Int64), x11_118 = (((x8 * (((pi (((1500 * x3) + x10) : Int32).toNatClampNeg) : Int32).toInt64)) + (((wo ((x5 + x10) : Int32).toNatClampNeg) : Int32).toInt64)) + x6) → vp_in (x5 + x10) 3010 ∧ ∀ (x6_142 : Int64), x6_142 = (x11_118 >>> ((16 : Int32).toInt64 &&& 63)) → ∀ (x10_144 : Int32), x10_144 = x10 + 1 → wl_X7_times_75  post K150 n pi le (upd wo ((x5 + x10) : Int32).toNatClampNeg (((x11_118 &&& 65535) : Int64).toInt32)) x1 x2 x3 x4 x5 x6_142 x8 x10_144)
def wl_X7_times_42  (post : (Nat → Int32) → (Nat → Int32) → (Nat → Int32) → Prop) (K173 : (Nat → Int32) → (Nat → Int32) → (Nat → Int32) → Int32 → Int32 → Prop) : Nat → (Nat → Int32) → (Nat → Int32) → (Nat → Int32) → Int32 → Int32 → Int32 → Int32 → Int32 → Prop
  | 0, _, _, _, _, _, _, _, _ => False
  | n + 1, pi, le, wo, x1, x2, x3, x4, x5 => vp_in x2 64 ∧ ((le (x2 : Int32).toNatClampNeg) ≤ x5 → K173 pi le wo x1 x4) ∧ (¬ (le (x2 : Int32).toNatClampNeg) ≤ x5 → vp_in ((1500 * x2) + x5) 96000 ∧ ∀ (x8_70 : Int64), x8_70 = (((pi (((1500 * x2) + x5) : Int32).toNatClampNeg) : Int32).toInt64) → ∃ n75 : Nat, wl_X7_times_75  post (fun (pi : Nat → Int32) (le : Nat → Int32) (wo : Nat → Int32) (x1 : Int32) (x2 : Int32) (x3 : Int32) (x4 : Int32) (x5 : Int32) (x6 : Int64) => vp_in x3 64 ∧ vp_in (x5 + (le (x3 : Int32).toNatClampNeg)) 3010 ∧ ∀ (x5_167 : Int32), x5_167 = x5 + 1 → wl_X7_times_42  post K173 n pi le (upd wo ((x5 + (le (x3 : Int32).toNatClampNeg)) : Int32).toNatClampNeg ((x6 : Int64).toInt32)) x1 x2 x3 x4 x5_167) n75 pi le wo x1 x2 x3 x4 x5 0 x8_70 0)
def wp_X7_times (pi : Nat → Int32) (le : Nat → Int32) (wo : Nat → Int32) (x1 : Int32) (x2 : Int32) (x3 : Int32) (post : (Nat → Int32) → (Nat → Int32) → (Nat → Int32) → Prop) : Prop := vp_in x2 64 ∧ vp_in x3 64 ∧ ∀ (x4_13 : Int32), x4_13 = ((le (x2 : Int32).toNatClampNeg) + (le (x3 : Int32).toNatClampNeg)) → ∃ n18 : Nat, wl_X7_times_18  post (fun (pi : Nat → Int32) (le : Nat → Int32) (wo : Nat → Int32) (x1 : Int32) (x2 : Int32) (x3 : Int32) (x4 : Int32) => ∃ n42 : Nat, wl_X7_times_42  post (fun (pi : Nat → Int32) (le : Nat → Int32) (wo : Nat → Int32) (x1 : Int32) (x4 : Int32) => wp_X7_take pi le wo x1 x4 (fun (pi_177 : Nat → Int32) (le_177 : Nat → Int32) => post pi_177 le_177 wo)) n42 pi le wo x1 x2 x3 x4 0) n18 pi le wo x1 x2 x3 x4_13 0
set_option maxHeartbeats 4000000 in
set_option maxRecDepth 100000 in
theorem ml_X7_times_18 (C : C7 p s m args meth c D cI q cX7_times 13 none) (th : Int32) (sz : Int32) (sd : Int32) (ss : Int32) (pr : Int32) (me : Int32) (ab : Nat → Int32) (be : Nat → Int32) (sg : Nat → Int32) (post : (Nat → Int32) → (Nat → Int32) → (Nat → Int32) → Prop) (K39 : (Nat → Int32) → (Nat → Int32) → (Nat → Int32) → Int32 → Int32 → Int32 → Int32 → Prop)
    (hK39 : (∀ (pi : Nat → Int32) (le : Nat → Int32) (wo : Nat → Int32) (x1 : Int32) (x2 : Int32) (x3 : Int32) (x4 : Int32) (H : Heap) (locs : List Loc) (ls : Array Slot), K39 pi le wo x1 x2 x3 x4 → va_P D vwCl (w7 cI q th sz sd ss pr me ab be pi le sg wo) H → va_S (A7 q) s.heap H locs → lv_has ls 13 [(0, .ref (q 0)), (1, .int x1), (2, .int x2), (3, .int x3), (4, .int x4)] → W p l e rX7_times s m args below meth c H locs 0 0 (MQ below (va_Qv (S := (Nat → Int32) × (Nat → Int32) × (Nat → Int32)) (fun u => post u.1 u.2.1 u.2.2) (fun u t => va_P D vwCl (w7 cI q th sz sd ss pr me ab be u.1 u.2.1 sg u.2.2) t.heap) (A7 q)) args s 0 0 (A7 q)) (F0 m 39 ls []))) :
    ∀ (n : Nat) (pi : Nat → Int32) (le : Nat → Int32) (wo : Nat → Int32) (x1 : Int32) (x2 : Int32) (x3 : Int32) (x4 : Int32) (x5 : Int32) (H : Heap) (locs : List Loc) (ls : Array Slot), wl_X7_times_18  post K39 n pi le wo x1 x2 x3 x4 x5 → va_P D vwCl (w7 cI q th sz sd ss pr me ab be pi le sg wo) H → va_S (A7 q) s.heap H locs → lv_has ls 13 [(0, .ref (q 0)), (1, .int x1), (2, .int x2), (3, .int x3), (4, .int x4), (5, .int x5)] → W p l e rX7_times s m args below meth c H locs 0 0 (MQ below (va_Qv (S := (Nat → Int32) × (Nat → Int32) × (Nat → Int32)) (fun u => post u.1 u.2.1 u.2.2) (fun u t => va_P D vwCl (w7 cI q th sz sd ss pr me ab be u.1 u.2.1 sg u.2.2) t.heap) (A7 q)) args s 0 0 (A7 q)) (F0 m 18 ls []) := by
  obtain ⟨hx, hb, hr, hml, hown, hg, hlocks, hK, hap⟩ := id C
  intro n
  induction n with
  | zero => intro pi le wo x1 x2 x3 x4 x5 H locs ls hw; exact absurd hw id
  | succ n ih =>
    intro pi le wo x1 x2 x3 x4 x5 H locs ls hw hP hS hl
    refine lv_iload hx hb dX7_times_18 (lv_at hl 5 rfl) ?_
    refine lv_iload hx hb dX7_times_20 (lv_at hl 4 rfl) ?_
    refine lv_icmp_ge (tgt := 39) hx hb dX7_times_22 (by decide) (fun hc22 => ?_) (fun hc22 => ?_)
    · have hw := hw.1 hc22
      exact hK39 _ _ _ _ _ _ _ _ _ _ hw hP hS (lv_sub hl [0, 1, 2, 3, 4] rfl)
    · have hw := hw.2 hc22
      refine lv_aload_n hx hb dX7_times_25 rfl (lv_at hl 0 rfl) ?_
      refine va_get (D := D) (ci := 7) (v := .ref (q 6)) (C := RX7) (T := TX7) (N := 12) hx hb hg ku_X7 hown hK hP 0 rfl rfl 11 (by decide) (hg _ kf_X7_46) (fun _ h9 => h9) rfl dX7_times_26 ?_
      refine lv_iload hx hb dX7_times_29 (lv_at hl 5 rfl) ?_
      refine lv_iconst (v := 0) hx hb dX7_times_31 (by decide) ?_
      obtain ⟨hi32, hw⟩ := hw
      refine va_iast (D := D) hx hb hK hP (D7 hap) hS 6 0 rfl rfl hi32 dX7_times_32 (fun H locs hP _ hS => ?_)
      have hP : va_P D vwCl (w7 cI q th sz sd ss pr me ab be pi le sg (upd wo (x5 : Int32).toNatClampNeg 0)) H := hP
      obtain ⟨x5_33, ex5_33⟩ : ∃ y : Int32, y = x5 + 1 := ⟨_, rfl⟩
      have hw := hw x5_33 ex5_33
      refine lv_iinc (v := x5_33) (lv' := [(5, .int x5_33), (0, .ref (q 0)), (1, .int x1), (2, .int x2), (3, .int x3), (4, .int x4)]) hx hb dX7_times_33 hl (k := 5) rfl (by rw [ex5_33]; rfl) (by decide) rfl (fun ls hl => ?_)
      refine lv_goto (tgt := 18) hx hb dX7_times_36 (by decide) ?_
      exact ih _ _ _ _ _ _ _ _ _ _ _ hw hP hS (lv_sub hl [1, 2, 3, 4, 5, 0] rfl)
set_option maxHeartbeats 4000000 in
set_option maxRecDepth 100000 in
theorem ml_X7_times_75 (C : C7 p s m args meth c D cI q cX7_times 13 none) (th : Int32) (sz : Int32) (sd : Int32) (ss : Int32) (pr : Int32) (me : Int32) (ab : Nat → Int32) (be : Nat → Int32) (sg : Nat → Int32) (post : (Nat → Int32) → (Nat → Int32) → (Nat → Int32) → Prop) (K150 : (Nat → Int32) → (Nat → Int32) → (Nat → Int32) → Int32 → Int32 → Int32 → Int32 → Int32 → Int64 → Prop)
    (hK150 : (∀ (pi : Nat → Int32) (le : Nat → Int32) (wo : Nat → Int32) (x1 : Int32) (x2 : Int32) (x3 : Int32) (x4 : Int32) (x5 : Int32) (x6 : Int64) (H : Heap) (locs : List Loc) (ls : Array Slot), K150 pi le wo x1 x2 x3 x4 x5 x6 → va_P D vwCl (w7 cI q th sz sd ss pr me ab be pi le sg wo) H → va_S (A7 q) s.heap H locs → lv_has ls 13 [(0, .ref (q 0)), (1, .int x1), (2, .int x2), (3, .int x3), (4, .int x4), (5, .int x5), (6, .long x6)] → W p l e rX7_times s m args below meth c H locs 0 0 (MQ below (va_Qv (S := (Nat → Int32) × (Nat → Int32) × (Nat → Int32)) (fun u => post u.1 u.2.1 u.2.2) (fun u t => va_P D vwCl (w7 cI q th sz sd ss pr me ab be u.1 u.2.1 sg u.2.2) t.heap) (A7 q)) args s 0 0 (A7 q)) (F0 m 150 ls []))) :
    ∀ (n : Nat) (pi : Nat → Int32) (le : Nat → Int32) (wo : Nat → Int32) (x1 : Int32) (x2 : Int32) (x3 : Int32) (x4 : Int32) (x5 : Int32) (x6 : Int64) (x8 : Int64) (x10 : Int32) (H : Heap) (locs : List Loc) (ls : Array Slot), wl_X7_times_75  post K150 n pi le wo x1 x2 x3 x4 x5 x6 x8 x10 → va_P D vwCl (w7 cI q th sz sd ss pr me ab be pi le sg wo) H → va_S (A7 q) s.heap H locs → lv_has ls 13 [(0, .ref (q 0)), (1, .int x1), (2, .int x2), (3, .int x3), (4, .int x4), (5, .int x5), (6, .long x6), (8, .long x8), (10, .int x10)] → W p l e rX7_times s m args below meth c H locs 0 0 (MQ below (va_Qv (S := (Nat → Int32) × (Nat → Int32) × (Nat → Int32)) (fun u => post u.1 u.2.1 u.2.2) (fun u t => va_P D vwCl (w7 cI q th sz sd ss pr me ab be u.1 u.2.1 sg u.2.2) t.heap) (A7 q)) args s 0 0 (A7 q)) (F0 m 75 ls []) := by
  obtain ⟨hx, hb, hr, hml, hown, hg, hlocks, hK, hap⟩ := id C
  intro n
  induction n with
  | zero => intro pi le wo x1 x2 x3 x4 x5 x6 x8 x10 H locs ls hw; exact absurd hw id
  | succ n ih =>
    intro pi le wo x1 x2 x3 x4 x5 x6 x8 x10 H locs ls hw hP hS hl
    refine lv_iload hx hb dX7_times_75 (lv_at hl 8 rfl) ?_
    refine lv_aload_n hx hb dX7_times_77 rfl (lv_at hl 0 rfl) ?_
    refine va_get (D := D) (ci := 7) (v := .ref (q 4)) (C := RX7) (T := TX7) (N := 12) hx hb hg ku_X7 hown hK hP 0 rfl rfl 9 (by decide) (hg _ kf_X7_40) (fun _ h9 => h9) rfl dX7_times_78 ?_
    refine lv_iload_n hx hb dX7_times_81 rfl (lv_at hl 3 rfl) ?_
    obtain ⟨hi82, hw⟩ := hw
    refine va_iald (D := D) hx hb hK hP 4 0 rfl rfl hi82 dX7_times_82 ?_
    refine lv_icmp_ge (tgt := 150) hx hb dX7_times_83 (by decide) (fun hc83 => ?_) (fun hc83 => ?_)
    · have hw := hw.1 hc83
      exact hK150 _ _ _ _ _ _ _ _ _ _ _ _ hw hP hS (lv_sub hl [0, 1, 2, 3, 4, 5, 6] rfl)
    · have hw := hw.2 hc83
      refine lv_lload hx hb dX7_times_86 (lv_at hl 7 rfl) ?_
      refine lv_aload_n hx hb dX7_times_88 rfl (lv_at hl 0 rfl) ?_
      refine va_get (D := D) (ci := 7) (v := .ref (q 3)) (C := RX7) (T := TX7) (N := 12) hx hb hg ku_X7 hown hK hP 0 rfl rfl 8 (by decide) (hg _ kf_X7_37) (fun _ h9 => h9) rfl dX7_times_89 ?_
      refine lv_sipush (v := 1500) hx hb dX7_times_92 (by decide) ?_
      refine lv_iload_n hx hb dX7_times_95 rfl (lv_at hl 3 rfl) ?_
      refine lv_imul hx hb dX7_times_96 ?_
      refine lv_iload hx hb dX7_times_97 (lv_at hl 8 rfl) ?_
      refine lv_iadd hx hb dX7_times_99 ?_
      obtain ⟨hi100, hw⟩ := hw
      refine va_iald (D := D) hx hb hK hP 3 0 rfl rfl hi100 dX7_times_100 ?_
      refine lv_i2l (v := ((pi (((1500 * x3) + x10) : Int32).toNatClampNeg) : Int32).toInt64) hx hb dX7_times_101 rfl ?_
      refine lv_lmul hx hb dX7_times_102 ?_
      refine lv_aload_n hx hb dX7_times_103 rfl (lv_at hl 0 rfl) ?_
      refine va_get (D := D) (ci := 7) (v := .ref (q 6)) (C := RX7) (T := TX7) (N := 12) hx hb hg ku_X7 hown hK hP 0 rfl rfl 11 (by decide) (hg _ kf_X7_46) (fun _ h9 => h9) rfl dX7_times_104 ?_
      refine lv_iload hx hb dX7_times_107 (lv_at hl 5 rfl) ?_
      refine lv_iload hx hb dX7_times_109 (lv_at hl 8 rfl) ?_
      refine lv_iadd hx hb dX7_times_111 ?_
      obtain ⟨hi112, hw⟩ := hw
      refine va_iald (D := D) hx hb hK hP 6 0 rfl rfl hi112 dX7_times_112 ?_
      refine lv_i2l (v := ((wo ((x5 + x10) : Int32).toNatClampNeg) : Int32).toInt64) hx hb dX7_times_113 rfl ?_
      refine lv_ladd hx hb dX7_times_114 ?_
      refine lv_lload hx hb dX7_times_115 (lv_at hl 6 rfl) ?_
      refine lv_ladd hx hb dX7_times_117 ?_
      refine lv_topl (fun x11_118 ex11_118 => ?_)
      have hw := hw x11_118 ex11_118
      refine lv_lstore (lv' := [(11, .long x11_118), (0, .ref (q 0)), (1, .int x1), (2, .int x2), (3, .int x3), (4, .int x4), (5, .int x5), (6, .long x6), (8, .long x8), (10, .int x10)]) hx hb dX7_times_118 hl (by decide) rfl (fun ls hl => ?_)
      refine lv_aload_n hx hb dX7_times_120 rfl (lv_at hl 1 rfl) ?_
      refine va_get (D := D) (ci := 7) (v := .ref (q 6)) (C := RX7) (T := TX7) (N := 12) hx hb hg ku_X7 hown hK hP 0 rfl rfl 11 (by decide) (hg _ kf_X7_46) (fun _ h9 => h9) rfl dX7_times_121 ?_
      refine lv_iload hx hb dX7_times_124 (lv_at hl 6 rfl) ?_
      refine lv_iload hx hb dX7_times_126 (lv_at hl 9 rfl) ?_
      refine lv_iadd hx hb dX7_times_128 ?_
      refine lv_lload hx hb dX7_times_129 (lv_at hl 0 rfl) ?_
      refine lv_ldc2 (v := 65535) hx hb hown (hg _ kc_X7_66) dX7_times_131 ?_
      refine lv_land hx hb dX7_times_134 ?_
      refine lv_l2i (v := ((x11_118 &&& 65535) : Int64).toInt32) hx hb dX7_times_135 rfl ?_
      obtain ⟨hi136, hw⟩ := hw
      refine va_iast (D := D) hx hb hK hP (D7 hap) hS 6 0 rfl rfl hi136 dX7_times_136 (fun H locs hP _ hS => ?_)
      have hP : va_P D vwCl (w7 cI q th sz sd ss pr me ab be pi le sg (upd wo ((x5 + x10) : Int32).toNatClampNeg (((x11_118 &&& 65535) : Int64).toInt32))) H := hP
      refine lv_lload hx hb dX7_times_137 (lv_at hl 0 rfl) ?_
      refine lv_bipush (v := 16) hx hb dX7_times_139 (by decide) ?_
      refine lv_lshr (v := (x11_118 >>> ((16 : Int32).toInt64 &&& 63))) hx hb dX7_times_141 rfl ?_
      refine lv_topl (fun x6_142 ex6_142 => ?_)
      have hw := hw x6_142 ex6_142
      refine lv_lstore (lv' := [(6, .long x6_142), (11, .long x11_118), (0, .ref (q 0)), (1, .int x1), (2, .int x2), (3, .int x3), (4, .int x4), (5, .int x5), (8, .long x8), (10, .int x10)]) hx hb dX7_times_142 hl (by decide) rfl (fun ls hl => ?_)
      obtain ⟨x10_144, ex10_144⟩ : ∃ y : Int32, y = x10 + 1 := ⟨_, rfl⟩
      have hw := hw x10_144 ex10_144
      refine lv_iinc (v := x10_144) (lv' := [(10, .int x10_144), (6, .long x6_142), (11, .long x11_118), (0, .ref (q 0)), (1, .int x1), (2, .int x2), (3, .int x3), (4, .int x4), (5, .int x5), (8, .long x8)]) hx hb dX7_times_144 hl (k := 9) rfl (by rw [ex10_144]; rfl) (by decide) rfl (fun ls hl => ?_)
      refine lv_goto (tgt := 75) hx hb dX7_times_147 (by decide) ?_
      exact ih _ _ _ _ _ _ _ _ _ _ _ _ _ _ hw hP hS (lv_sub hl [3, 4, 5, 6, 7, 8, 1, 9, 0] rfl)
set_option maxHeartbeats 4000000 in
set_option maxRecDepth 100000 in
theorem ml_X7_times_42 (C : C7 p s m args meth c D cI q cX7_times 13 none) (th : Int32) (sz : Int32) (sd : Int32) (ss : Int32) (pr : Int32) (me : Int32) (ab : Nat → Int32) (be : Nat → Int32) (sg : Nat → Int32) (post : (Nat → Int32) → (Nat → Int32) → (Nat → Int32) → Prop) (K173 : (Nat → Int32) → (Nat → Int32) → (Nat → Int32) → Int32 → Int32 → Prop)
    (hK173 : (∀ (pi : Nat → Int32) (le : Nat → Int32) (wo : Nat → Int32) (x1 : Int32) (x4 : Int32) (H : Heap) (locs : List Loc) (ls : Array Slot), K173 pi le wo x1 x4 → va_P D vwCl (w7 cI q th sz sd ss pr me ab be pi le sg wo) H → va_S (A7 q) s.heap H locs → lv_has ls 13 [(0, .ref (q 0)), (1, .int x1), (4, .int x4)] → W p l e rX7_times s m args below meth c H locs 0 0 (MQ below (va_Qv (S := (Nat → Int32) × (Nat → Int32) × (Nat → Int32)) (fun u => post u.1 u.2.1 u.2.2) (fun u t => va_P D vwCl (w7 cI q th sz sd ss pr me ab be u.1 u.2.1 sg u.2.2) t.heap) (A7 q)) args s 0 0 (A7 q)) (F0 m 173 ls []))) :
    ∀ (n : Nat) (pi : Nat → Int32) (le : Nat → Int32) (wo : Nat → Int32) (x1 : Int32) (x2 : Int32) (x3 : Int32) (x4 : Int32) (x5 : Int32) (H : Heap) (locs : List Loc) (ls : Array Slot), wl_X7_times_42  post K173 n pi le wo x1 x2 x3 x4 x5 → va_P D vwCl (w7 cI q th sz sd ss pr me ab be pi le sg wo) H → va_S (A7 q) s.heap H locs → lv_has ls 13 [(0, .ref (q 0)), (1, .int x1), (2, .int x2), (3, .int x3), (4, .int x4), (5, .int x5)] → W p l e rX7_times s m args below meth c H locs 0 0 (MQ below (va_Qv (S := (Nat → Int32) × (Nat → Int32) × (Nat → Int32)) (fun u => post u.1 u.2.1 u.2.2) (fun u t => va_P D vwCl (w7 cI q th sz sd ss pr me ab be u.1 u.2.1 sg u.2.2) t.heap) (A7 q)) args s 0 0 (A7 q)) (F0 m 42 ls []) := by
  obtain ⟨hx, hb, hr, hml, hown, hg, hlocks, hK, hap⟩ := id C
  intro n
  induction n with
  | zero => intro pi le wo x1 x2 x3 x4 x5 H locs ls hw; exact absurd hw id
  | succ n ih =>
    intro pi le wo x1 x2 x3 x4 x5 H locs ls hw hP hS hl
    refine lv_iload hx hb dX7_times_42 (lv_at hl 5 rfl) ?_
    refine lv_aload_n hx hb dX7_times_44 rfl (lv_at hl 0 rfl) ?_
    refine va_get (D := D) (ci := 7) (v := .ref (q 4)) (C := RX7) (T := TX7) (N := 12) hx hb hg ku_X7 hown hK hP 0 rfl rfl 9 (by decide) (hg _ kf_X7_40) (fun _ h9 => h9) rfl dX7_times_45 ?_
    refine lv_iload_n hx hb dX7_times_48 rfl (lv_at hl 2 rfl) ?_
    obtain ⟨hi49, hw⟩ := hw
    refine va_iald (D := D) hx hb hK hP 4 0 rfl rfl hi49 dX7_times_49 ?_
    refine lv_icmp_ge (tgt := 173) hx hb dX7_times_50 (by decide) (fun hc50 => ?_) (fun hc50 => ?_)
    · have hw := hw.1 hc50
      exact hK173 _ _ _ _ _ _ _ _ hw hP hS (lv_sub hl [0, 1, 4] rfl)
    · have hw := hw.2 hc50
      refine lv_lconst (v := 0) hx hb dX7_times_53 (by decide) ?_
      refine lv_lstore (lv' := [(6, .long 0), (0, .ref (q 0)), (1, .int x1), (2, .int x2), (3, .int x3), (4, .int x4), (5, .int x5)]) hx hb dX7_times_54 hl (by decide) rfl (fun ls hl => ?_)
      refine lv_aload_n hx hb dX7_times_56 rfl (lv_at hl 1 rfl) ?_
      refine va_get (D := D) (ci := 7) (v := .ref (q 3)) (C := RX7) (T := TX7) (N := 12) hx hb hg ku_X7 hown hK hP 0 rfl rfl 8 (by decide) (hg _ kf_X7_37) (fun _ h9 => h9) rfl dX7_times_57 ?_
      refine lv_sipush (v := 1500) hx hb dX7_times_60 (by decide) ?_
      refine lv_iload_n hx hb dX7_times_63 rfl (lv_at hl 3 rfl) ?_
      refine lv_imul hx hb dX7_times_64 ?_
      refine lv_iload hx hb dX7_times_65 (lv_at hl 6 rfl) ?_
      refine lv_iadd hx hb dX7_times_67 ?_
      obtain ⟨hi68, hw⟩ := hw
      refine va_iald (D := D) hx hb hK hP 3 0 rfl rfl hi68 dX7_times_68 ?_
      refine lv_i2l (v := ((pi (((1500 * x2) + x5) : Int32).toNatClampNeg) : Int32).toInt64) hx hb dX7_times_69 rfl ?_
      refine lv_topl (fun x8_70 ex8_70 => ?_)
      have hw := hw x8_70 ex8_70
      refine lv_lstore (lv' := [(8, .long x8_70), (6, .long 0), (0, .ref (q 0)), (1, .int x1), (2, .int x2), (3, .int x3), (4, .int x4), (5, .int x5)]) hx hb dX7_times_70 hl (by decide) rfl (fun ls hl => ?_)
      refine lv_iconst (v := 0) hx hb dX7_times_72 (by decide) ?_
      refine lv_istore (lv' := [(10, .int 0), (8, .long x8_70), (6, .long 0), (0, .ref (q 0)), (1, .int x1), (2, .int x2), (3, .int x3), (4, .int x4), (5, .int x5)]) hx hb dX7_times_73 hl (by decide) rfl (fun ls hl => ?_)
      obtain ⟨n75, hw⟩ := hw
      refine ml_X7_times_75 C th sz sd ss pr me ab be sg post _ ?_ n75 _ _ _ _ _ _ _ _ _ _ _ _ _ _ hw hP hS (lv_sub hl [3, 4, 5, 6, 7, 8, 2, 1, 0] rfl)
      · intro pi le wo x1 x2 x3 x4 x5 x6 H locs ls hw hP hS hl
        refine lv_aload_n hx hb dX7_times_150 rfl (lv_at hl 0 rfl) ?_
        refine va_get (D := D) (ci := 7) (v := .ref (q 6)) (C := RX7) (T := TX7) (N := 12) hx hb hg ku_X7 hown hK hP 0 rfl rfl 11 (by decide) (hg _ kf_X7_46) (fun _ h9 => h9) rfl dX7_times_151 ?_
        refine lv_iload hx hb dX7_times_154 (lv_at hl 5 rfl) ?_
        refine lv_aload_n hx hb dX7_times_156 rfl (lv_at hl 0 rfl) ?_
        refine va_get (D := D) (ci := 7) (v := .ref (q 4)) (C := RX7) (T := TX7) (N := 12) hx hb hg ku_X7 hown hK hP 0 rfl rfl 9 (by decide) (hg _ kf_X7_40) (fun _ h9 => h9) rfl dX7_times_157 ?_
        refine lv_iload_n hx hb dX7_times_160 rfl (lv_at hl 3 rfl) ?_
        obtain ⟨hi161, hw⟩ := hw
        refine va_iald (D := D) hx hb hK hP 4 0 rfl rfl hi161 dX7_times_161 ?_
        refine lv_iadd hx hb dX7_times_162 ?_
        refine lv_lload hx hb dX7_times_163 (lv_at hl 6 rfl) ?_
        refine lv_l2i (v := (x6 : Int64).toInt32) hx hb dX7_times_165 rfl ?_
        obtain ⟨hi166, hw⟩ := hw
        refine va_iast (D := D) hx hb hK hP (D7 hap) hS 6 0 rfl rfl hi166 dX7_times_166 (fun H locs hP _ hS => ?_)
        have hP : va_P D vwCl (w7 cI q th sz sd ss pr me ab be pi le sg (upd wo ((x5 + (le (x3 : Int32).toNatClampNeg)) : Int32).toNatClampNeg ((x6 : Int64).toInt32))) H := hP
        obtain ⟨x5_167, ex5_167⟩ : ∃ y : Int32, y = x5 + 1 := ⟨_, rfl⟩
        have hw := hw x5_167 ex5_167
        refine lv_iinc (v := x5_167) (lv' := [(5, .int x5_167), (0, .ref (q 0)), (1, .int x1), (2, .int x2), (3, .int x3), (4, .int x4), (6, .long x6)]) hx hb dX7_times_167 hl (k := 5) rfl (by rw [ex5_167]; rfl) (by decide) rfl (fun ls hl => ?_)
        refine lv_goto (tgt := 42) hx hb dX7_times_170 (by decide) ?_
        exact ih _ _ _ _ _ _ _ _ _ _ _ hw hP hS (lv_sub hl [1, 2, 3, 4, 5, 0] rfl)
set_option maxHeartbeats 4000000 in
set_option maxRecDepth 100000 in
theorem m_X7_times (l : Launch) (D : va_G) (cI : ClassId) (q : Nat → Nat) (th : Int32) (sz : Int32) (sd : Int32) (ss : Int32) (pr : Int32) (me : Int32) (ab : Nat → Int32) (be : Nat → Int32) (pi : Nat → Int32) (le : Nat → Int32) (sg : Nat → Int32) (wo : Nat → Int32) (x1 : Int32) (x2 : Int32) (x3 : Int32) (post : (Nat → Int32) → (Nat → Int32) → (Nat → Int32) → Prop) (hw : wp_X7_times pi le wo x1 x2 x3 post) : Met l yX7_times (wu yX7_times cX7_times 13 none) rX7_times (va_Pc [.ref (q 0), .int x1, .int x2, .int x3] (fun U => va_P D vwCl (w7 cI q th sz sd ss pr me ab be pi le sg wo) U.heap ∧ K7 D cI q U)) (va_Qv (S := (Nat → Int32) × (Nat → Int32) × (Nat → Int32)) (fun u => post u.1 u.2.1 u.2.2) (fun u t => va_P D vwCl (w7 cI q th sz sd ss pr me ab be u.1 u.2.1 sg u.2.2) t.heap) (A7 q)) 0 0 (A7 q) := by
  refine Met.ofW (cc := cX7_times) (maxL := 13) (ret := none) (by decide) rfl ?_
  intro p e s m args below meth c s₁ B hml hv
  obtain ⟨rfl, hP, hK, hap⟩ := hv
  have C : C7 p s m _ meth c D cI q cX7_times 13 none := ⟨B.exec, B.bytes, B.returns, hml, findClass_of_methodNamed B.named, x_hg (atoms_spec (ws := wu yX7_times cX7_times 13 none) B.pre), B.notSynchronized, hK, hap⟩
  obtain ⟨hx, hb, hr, hml, hown, hg, hlocks, hK, hap⟩ := id C
  have hS : va_S (A7 q) s.heap s.heap [] := va_S.rf
  have hl := lv_entry ([.ref (q 0), .int x1, .int x2, .int x3]) (n := 13) (Nat.le_of_ble_eq_true rfl)
  rw [lg_entry_eq]
  generalize (lg_sl ([.ref (q 0), .int x1, .int x2, .int x3]) ++ List.replicate (13 - (lg_sl ([.ref (q 0), .int x1, .int x2, .int x3])).length) Slot.unset).toArray = ls at hl ⊢
  have hl : lv_has ls 13 [(0, .ref (q 0)), (1, .int x1), (2, .int x2), (3, .int x3)] := hl
  unfold wp_X7_times at hw
  refine lv_aload_n hx hb dX7_times_0 rfl (lv_at hl 0 rfl) ?_
  refine va_get (D := D) (ci := 7) (v := .ref (q 4)) (C := RX7) (T := TX7) (N := 12) hx hb hg ku_X7 hown hK hP 0 rfl rfl 9 (by decide) (hg _ kf_X7_40) (fun _ h9 => h9) rfl dX7_times_1 ?_
  refine lv_iload_n hx hb dX7_times_4 rfl (lv_at hl 2 rfl) ?_
  obtain ⟨hi5, hw⟩ := hw
  refine va_iald (D := D) hx hb hK hP 4 0 rfl rfl hi5 dX7_times_5 ?_
  refine lv_aload_n hx hb dX7_times_6 rfl (lv_at hl 0 rfl) ?_
  refine va_get (D := D) (ci := 7) (v := .ref (q 4)) (C := RX7) (T := TX7) (N := 12) hx hb hg ku_X7 hown hK hP 0 rfl rfl 9 (by decide) (hg _ kf_X7_40) (fun _ h9 => h9) rfl dX7_times_7 ?_
  refine lv_iload_n hx hb dX7_times_10 rfl (lv_at hl 3 rfl) ?_
  obtain ⟨hi11, hw⟩ := hw
  refine va_iald (D := D) hx hb hK hP 4 0 rfl rfl hi11 dX7_times_11 ?_
  refine lv_iadd hx hb dX7_times_12 ?_
  refine lv_topi (fun x4_13 ex4_13 => ?_)
  have hw := hw x4_13 ex4_13
  refine lv_istore (lv' := [(4, .int x4_13), (0, .ref (q 0)), (1, .int x1), (2, .int x2), (3, .int x3)]) hx hb dX7_times_13 hl (by decide) rfl (fun ls hl => ?_)
  refine lv_iconst (v := 0) hx hb dX7_times_15 (by decide) ?_
  refine lv_istore (lv' := [(5, .int 0), (4, .int x4_13), (0, .ref (q 0)), (1, .int x1), (2, .int x2), (3, .int x3)]) hx hb dX7_times_16 hl (by decide) rfl (fun ls hl => ?_)
  obtain ⟨n18, hw⟩ := hw
  refine ml_X7_times_18 C th sz sd ss pr me ab be sg post _ ?_ n18 _ _ _ _ _ _ _ _ _ _ _ hw hP hS (lv_sub hl [2, 3, 4, 5, 1, 0] rfl)
  · intro pi le wo x1 x2 x3 x4 H locs ls hw hP hS hl
    refine lv_iconst (v := 0) hx hb dX7_times_39 (by decide) ?_
    refine lv_istore (lv' := [(5, .int 0), (0, .ref (q 0)), (1, .int x1), (2, .int x2), (3, .int x3), (4, .int x4)]) hx hb dX7_times_40 hl (by decide) rfl (fun ls hl => ?_)
    obtain ⟨n42, hw⟩ := hw
    refine ml_X7_times_42 C th sz sd ss pr me ab be sg post _ ?_ n42 _ _ _ _ _ _ _ _ _ _ _ hw hP hS (lv_sub hl [1, 2, 3, 4, 5, 0] rfl)
    · intro pi le wo x1 x4 H locs ls hw hP hS hl
      refine lv_aload_n hx hb dX7_times_173 rfl (lv_at hl 0 rfl) ?_
      refine lv_iload_n hx hb dX7_times_174 rfl (lv_at hl 1 rfl) ?_
      refine lv_iload hx hb dX7_times_175 (lv_at hl 2 rfl) ?_
      refine va_callv (va_runV (As := [.int x1, .int x4]) (rest := []) ⟨hx, hb, hml, hown, hg⟩ (m_X7_take l D cI q th sz sd ss pr me ab be pi le sg wo x1 x4 _ hw) (cwV 2 hg (x_gV km_X7_58 ki_X7_take kz_X7_X7_take kn_X7 kk_X7_take) rfl rfl rfl (by decide +kernel) ⟨Nat.le_of_ble_eq_true rfl, Nat.le_of_ble_eq_true rfl⟩) (pre7V hP hK hap [.int x1, .int x4]) rfl rfl hl.1 rfl (lv_room (Nat.le_of_ble_eq_true rfl)) dX7_times_177 ⟨Nat.zero_le _, Nat.zero_le _⟩) hS (fun _ _ h => h) (fun _ h => h) (fun  u t H locs ht hvm hw hP hz1 hk1 hS => ?_)
      obtain ⟨pi_177, le_177⟩ := u
      rw [ht] at hP; clear hz1 hk1 ht hvm
      try dsimp only at hw
      try dsimp only at hP
      exact W.vret hx hb hr (fun t ht hW => ⟨⟨(pi_177, le_177, wo), rfl, hw, by show va_P D vwCl _ t.heap; rw [ht]; exact hP⟩, hS.F ht⟩) hS.2.2 dX7_times_180 hlocks
-- ===== ExactFilterModel.bits
abbrev rX7_bits : Room := { frames := 1, cells := 0, slots := 0, locals := 22 }
def wl_X7_bits_15 (pi : Nat → Int32) (le : Nat → Int32) (post : Int32 → Prop) (K34 : Int32 → Int32 → Prop) : Nat → Int32 → Int32 → Int32 → Prop
  | 0, _, _, _ => False
  | n + 1, x1, x2, x3 => wp_X7_digit pi le x1 (x2 - 1) (fun (r_20 : Int32) => ((r_20 >>> (x3 &&& 31)) ≤ 0 → K34 x2 x3) ∧ (¬ (r_20 >>> (x3 &&& 31)) ≤ 0 → ∀ (x3_28 : Int32), x3_28 = x3 + 1 → wl_X7_bits_15 pi le post K34 n x1 x2 x3_28))
def wp_X7_bits (pi : Nat → Int32) (le : Nat → Int32) (x1 : Int32) (post : Int32 → Prop) : Prop := vp_in x1 64 ∧ ∀ (x2_6 : Int32), x2_6 = (le (x1 : Int32).toNatClampNeg) → (¬ x2_6 = 0 → ∃ n15 : Nat, wl_X7_bits_15 pi le post (fun (x2 : Int32) (x3 : Int32) => post (((16 * x2) - 16) + x3) ) n15 x1 x2_6 0) ∧ (x2_6 = 0 → post 0 )
set_option maxHeartbeats 4000000 in
set_option maxRecDepth 100000 in
theorem ml_X7_bits_15 (C : C7 p s m args meth c D cI q cX7_bits 4 (some .int)) (th : Int32) (sz : Int32) (sd : Int32) (ss : Int32) (pr : Int32) (me : Int32) (ab : Nat → Int32) (be : Nat → Int32) (pi : Nat → Int32) (le : Nat → Int32) (sg : Nat → Int32) (wo : Nat → Int32) (post : Int32 → Prop) (K34 : Int32 → Int32 → Prop)
    (hK34 : (∀ (x2 : Int32) (x3 : Int32) (H : Heap) (locs : List Loc) (ls : Array Slot), K34 x2 x3 → va_P D vwCl (w7 cI q th sz sd ss pr me ab be pi le sg wo) H → va_S (A7 q) s.heap H locs → lv_has ls 4 [(2, .int x2), (3, .int x3)] → W p l e rX7_bits s m args below meth c H locs 0 0 (MQ below (va_Qi (S := Unit) (fun r u => post r ) (fun u t => va_P D vwCl (w7 cI q th sz sd ss pr me ab be pi le sg wo) t.heap) (A7 q)) args s 0 0 (A7 q)) (F0 m 34 ls []))) :
    ∀ (n : Nat) (x1 : Int32) (x2 : Int32) (x3 : Int32) (H : Heap) (locs : List Loc) (ls : Array Slot), wl_X7_bits_15 pi le post K34 n x1 x2 x3 → va_P D vwCl (w7 cI q th sz sd ss pr me ab be pi le sg wo) H → va_S (A7 q) s.heap H locs → lv_has ls 4 [(0, .ref (q 0)), (1, .int x1), (2, .int x2), (3, .int x3)] → W p l e rX7_bits s m args below meth c H locs 0 0 (MQ below (va_Qi (S := Unit) (fun r u => post r ) (fun u t => va_P D vwCl (w7 cI q th sz sd ss pr me ab be pi le sg wo) t.heap) (A7 q)) args s 0 0 (A7 q)) (F0 m 15 ls []) := by
  obtain ⟨hx, hb, hr, hml, hown, hg, hlocks, hK, hap⟩ := id C
  intro n
  induction n with
  | zero => intro x1 x2 x3 H locs ls hw; exact absurd hw id
  | succ n ih =>
    intro x1 x2 x3 H locs ls hw hP hS hl
    refine lv_aload_n hx hb dX7_bits_15 rfl (lv_at hl 0 rfl) ?_
    refine lv_iload_n hx hb dX7_bits_16 rfl (lv_at hl 1 rfl) ?_
    refine lv_iload_n hx hb dX7_bits_17 rfl (lv_at hl 2 rfl) ?_
    refine lv_iconst (v := 1) hx hb dX7_bits_18 (by decide) ?_
    refine lv_isub hx hb dX7_bits_19 ?_
    refine va_calli (va_runV (As := [.int x1, .int (x2 - 1)]) (rest := []) ⟨hx, hb, hml, hown, hg⟩ (m_X7_digit l D cI q th sz sd ss pr me ab be pi le sg wo x1 (x2 - 1) _ hw) (cwV 2 hg (x_gV km_X7_62 ki_X7_digit kz_X7_X7_digit kn_X7 kk_X7_digit) rfl rfl rfl (by decide +kernel) ⟨Nat.le_of_ble_eq_true rfl, Nat.le_of_ble_eq_true rfl⟩) (pre7V hP hK hap [.int x1, .int (x2 - 1)]) rfl rfl hl.1 rfl (lv_room (Nat.le_of_ble_eq_true rfl)) dX7_bits_20 ⟨Nat.zero_le _, Nat.zero_le _⟩) hS (fun _ _ h => h) (fun _ h => h) (fun r_20 u t H locs ht hvm hw hP hz1 hk1 hS => ?_)
    rw [ht] at hP; clear hz1 hk1 ht hvm
    try dsimp only at hw
    try dsimp only at hP
    refine lv_iload_n hx hb dX7_bits_23 rfl (lv_at hl 3 rfl) ?_
    refine lv_ishr hx hb dX7_bits_24 ?_
    refine lv_if_le (tgt := 34) hx hb dX7_bits_25 (by decide) (fun hc25 => ?_) (fun hc25 => ?_)
    · have hw := hw.1 hc25
      exact hK34 _ _ _ _ _ hw hP hS (lv_sub hl [2, 3] rfl)
    · have hw := hw.2 hc25
      obtain ⟨x3_28, ex3_28⟩ : ∃ y : Int32, y = x3 + 1 := ⟨_, rfl⟩
      have hw := hw x3_28 ex3_28
      refine lv_iinc (v := x3_28) (lv' := [(3, .int x3_28), (0, .ref (q 0)), (1, .int x1), (2, .int x2)]) hx hb dX7_bits_28 hl (k := 3) rfl (by rw [ex3_28]; rfl) (by decide) rfl (fun ls hl => ?_)
      refine lv_goto (tgt := 15) hx hb dX7_bits_31 (by decide) ?_
      exact ih _ _ _ _ _ _ hw hP hS (lv_sub hl [1, 2, 3, 0] rfl)
set_option maxHeartbeats 4000000 in
set_option maxRecDepth 100000 in
theorem m_X7_bits (l : Launch) (D : va_G) (cI : ClassId) (q : Nat → Nat) (th : Int32) (sz : Int32) (sd : Int32) (ss : Int32) (pr : Int32) (me : Int32) (ab : Nat → Int32) (be : Nat → Int32) (pi : Nat → Int32) (le : Nat → Int32) (sg : Nat → Int32) (wo : Nat → Int32) (x1 : Int32) (post : Int32 → Prop) (hw : wp_X7_bits pi le x1 post) : Met l yX7_bits (wu yX7_bits cX7_bits 4 (some .int)) rX7_bits (va_Pc [.ref (q 0), .int x1] (fun U => va_P D vwCl (w7 cI q th sz sd ss pr me ab be pi le sg wo) U.heap ∧ K7 D cI q U)) (va_Qi (S := Unit) (fun r u => post r ) (fun u t => va_P D vwCl (w7 cI q th sz sd ss pr me ab be pi le sg wo) t.heap) (A7 q)) 0 0 (A7 q) := by
  refine Met.ofW (cc := cX7_bits) (maxL := 4) (ret := (some .int)) (by decide) rfl ?_
  intro p e s m args below meth c s₁ B hml hv
  obtain ⟨rfl, hP, hK, hap⟩ := hv
  have C : C7 p s m _ meth c D cI q cX7_bits 4 (some .int) := ⟨B.exec, B.bytes, B.returns, hml, findClass_of_methodNamed B.named, x_hg (atoms_spec (ws := wu yX7_bits cX7_bits 4 (some .int)) B.pre), B.notSynchronized, hK, hap⟩
  obtain ⟨hx, hb, hr, hml, hown, hg, hlocks, hK, hap⟩ := id C
  have hS : va_S (A7 q) s.heap s.heap [] := va_S.rf
  have hl := lv_entry ([.ref (q 0), .int x1]) (n := 4) (Nat.le_of_ble_eq_true rfl)
  rw [lg_entry_eq]
  generalize (lg_sl ([.ref (q 0), .int x1]) ++ List.replicate (4 - (lg_sl ([.ref (q 0), .int x1])).length) Slot.unset).toArray = ls at hl ⊢
  have hl : lv_has ls 4 [(0, .ref (q 0)), (1, .int x1)] := hl
  unfold wp_X7_bits at hw
  refine lv_aload_n hx hb dX7_bits_0 rfl (lv_at hl 0 rfl) ?_
  refine va_get (D := D) (ci := 7) (v := .ref (q 4)) (C := RX7) (T := TX7) (N := 12) hx hb hg ku_X7 hown hK hP 0 rfl rfl 9 (by decide) (hg _ kf_X7_40) (fun _ h9 => h9) rfl dX7_bits_1 ?_
  refine lv_iload_n hx hb dX7_bits_4 rfl (lv_at hl 1 rfl) ?_
  obtain ⟨hi5, hw⟩ := hw
  refine va_iald (D := D) hx hb hK hP 4 0 rfl rfl hi5 dX7_bits_5 ?_
  refine lv_topi (fun x2_6 ex2_6 => ?_)
  have hw := hw x2_6 ex2_6
  refine lv_istore_n (lv' := [(2, .int x2_6), (0, .ref (q 0)), (1, .int x1)]) hx hb dX7_bits_6 rfl hl (by decide) rfl (fun ls hl => ?_)
  refine lv_iload_n hx hb dX7_bits_7 rfl (lv_at hl 0 rfl) ?_
  refine lv_if_ne (tgt := 13) hx hb dX7_bits_8 (by decide) (fun hc8 => ?_) (fun hc8 => ?_)
  · have hw := hw.1 hc8
    refine lv_iconst (v := 0) hx hb dX7_bits_13 (by decide) ?_
    refine lv_istore_n (lv' := [(3, .int 0), (2, .int x2_6), (0, .ref (q 0)), (1, .int x1)]) hx hb dX7_bits_14 rfl hl (by decide) rfl (fun ls hl => ?_)
    obtain ⟨n15, hw⟩ := hw
    refine ml_X7_bits_15 C th sz sd ss pr me ab be pi le sg wo post _ ?_ n15 _ _ _ _ _ _ hw hP hS (lv_sub hl [2, 3, 1, 0] rfl)
    · intro x2 x3 H locs ls hw hP hS hl
      refine lv_bipush (v := 16) hx hb dX7_bits_34 (by decide) ?_
      refine lv_iload_n hx hb dX7_bits_36 rfl (lv_at hl 0 rfl) ?_
      refine lv_imul hx hb dX7_bits_37 ?_
      refine lv_bipush (v := 16) hx hb dX7_bits_38 (by decide) ?_
      refine lv_isub hx hb dX7_bits_40 ?_
      refine lv_iload_n hx hb dX7_bits_41 rfl (lv_at hl 1 rfl) ?_
      refine lv_iadd hx hb dX7_bits_42 ?_
      exact W.iret (v := (((16 * x2) - 16) + x3)) hx hb hr (fun t ht hW => ⟨⟨(((16 * x2) - 16) + x3), (), rfl, hw, by show va_P D vwCl _ t.heap; rw [ht]; exact hP⟩, hS.F ht⟩) hS.2.2 dX7_bits_43 hlocks
  · have hw := hw.2 hc8
    refine lv_iconst (v := 0) hx hb dX7_bits_11 (by decide) ?_
    exact W.iret (v := 0) hx hb hr (fun t ht hW => ⟨⟨0, (), rfl, hw, by show va_P D vwCl _ t.heap; rw [ht]; exact hP⟩, hS.F ht⟩) hS.2.2 dX7_bits_12 hlocks
-- ===== ExactFilterModel.shiftUp
abbrev rX7_shiftUp : Room := { frames := 1, cells := 0, slots := 0, locals := 24 }
def wj_X7_shiftUp_81  (post : (Nat → Int32) → (Nat → Int32) → (Nat → Int32) → Prop) (Rc : (Nat → Int32) → (Nat → Int32) → (Nat → Int32) → Int32 → Int32 → Int32 → Int32 → Int32 → Int32 → Prop) (K113 : (Nat → Int32) → (Nat → Int32) → (Nat → Int32) → Int32 → Int32 → Prop) (pi : Nat → Int32) (le : Nat → Int32) (wo : Nat → Int32) (x1 : Int32) (x2 : Int32) (x4 : Int32) (x5 : Int32) (x6 : Int32) (x7 : Int32) (x8 : Int32) (s0 : Int32) : Prop := vp_in x7 3010 ∧ ∀ (x7_107 : Int32), x7_107 = x7 + 1 → Rc pi le (upd wo (x7 : Int32).toNatClampNeg (((x8 <<< (x5 &&& 31)) ||| (s0 >>> ((16 - x5) &&& 31))) &&& 65535)) x1 x2 x4 x5 x6 x7_107
def wj_X7_shiftUp_56  (post : (Nat → Int32) → (Nat → Int32) → (Nat → Int32) → Prop) (Rc : (Nat → Int32) → (Nat → Int32) → (Nat → Int32) → Int32 → Int32 → Int32 → Int32 → Int32 → Int32 → Prop) (K113 : (Nat → Int32) → (Nat → Int32) → (Nat → Int32) → Int32 → Int32 → Prop) (pi : Nat → Int32) (le : Nat → Int32) (wo : Nat → Int32) (x1 : Int32) (x2 : Int32) (x4 : Int32) (x5 : Int32) (x6 : Int32) (x7 : Int32) (s0 : Int32) : Prop := (x7 ≤ x4 → wj_X7_shiftUp_81  post (Rc) K113 pi le wo x1 x2 x4 x5 x6 x7 s0 0) ∧ (¬ x7 ≤ x4 → wp_X7_digit pi le x2 ((x7 - x4) - 1) (fun (r_74 : Int32) => wj_X7_shiftUp_81  post (Rc) K113 pi le wo x1 x2 x4 x5 x6 x7 s0 r_74))
def wl_X7_shiftUp_28  (post : (Nat → Int32) → (Nat → Int32) → (Nat → Int32) → Prop) (K113 : (Nat → Int32) → (Nat → Int32) → (Nat → Int32) → Int32 → Int32 → Prop) : Nat → (Nat → Int32) → (Nat → Int32) → (Nat → Int32) → Int32 → Int32 → Int32 → Int32 → Int32 → Int32 → Prop
  | 0, _, _, _, _, _, _, _, _, _ => False
  | n + 1, pi, le, wo, x1, x2, x4, x5, x6, x7 => (x6 ≤ x7 → K113 pi le wo x1 x6) ∧ (¬ x6 ≤ x7 → (x7 < x4 → wj_X7_shiftUp_56  post (wl_X7_shiftUp_28  post K113 n) K113 pi le wo x1 x2 x4 x5 x6 x7 0) ∧ (¬ x7 < x4 → wp_X7_digit pi le x2 (x7 - x4) (fun (r_49 : Int32) => wj_X7_shiftUp_56  post (wl_X7_shiftUp_28  post K113 n) K113 pi le wo x1 x2 x4 x5 x6 x7 r_49)))
def wp_X7_shiftUp (pi : Nat → Int32) (le : Nat → Int32) (wo : Nat → Int32) (x1 : Int32) (x2 : Int32) (x3 : Int32) (post : (Nat → Int32) → (Nat → Int32) → (Nat → Int32) → Prop) : Prop := ∀ (x4_4 : Int32), x4_4 = (x3 / 16) → ∀ (x5_10 : Int32), x5_10 = (x3 - x3 / 16 * 16) → vp_in x2 64 ∧ ∀ (x6_23 : Int32), x6_23 = (((le (x2 : Int32).toNatClampNeg) + x4_4) + 1) → ∃ n28 : Nat, wl_X7_shiftUp_28  post (fun (pi : Nat → Int32) (le : Nat → Int32) (wo : Nat → Int32) (x1 : Int32) (x6 : Int32) => wp_X7_take pi le wo x1 x6 (fun (pi_117 : Nat → Int32) (le_117 : Nat → Int32) => post pi_117 le_117 wo)) n28 pi le wo x1 x2 x4_4 x5_10 x6_23 0
set_option maxHeartbeats 4000000 in
set_option maxRecDepth 100000 in
theorem mj_X7_shiftUp_81 (C : C7 p s m args meth c D cI q cX7_shiftUp 10 none) (th : Int32) (sz : Int32) (sd : Int32) (ss : Int32) (pr : Int32) (me : Int32) (ab : Nat → Int32) (be : Nat → Int32) (sg : Nat → Int32) (post : (Nat → Int32) → (Nat → Int32) → (Nat → Int32) → Prop) (Rc : (Nat → Int32) → (Nat → Int32) → (Nat → Int32) → Int32 → Int32 → Int32 → Int32 → Int32 → Int32 → Prop) (K113 : (Nat → Int32) → (Nat → Int32) → (Nat → Int32) → Int32 → Int32 → Prop)
    (hRc : (∀ (pi : Nat → Int32) (le : Nat → Int32) (wo : Nat → Int32) (x1 : Int32) (x2 : Int32) (x4 : Int32) (x5 : Int32) (x6 : Int32) (x7 : Int32) (H : Heap) (locs : List Loc) (ls : Array Slot), Rc pi le wo x1 x2 x4 x5 x6 x7 → va_P D vwCl (w7 cI q th sz sd ss pr me ab be pi le sg wo) H → va_S (A7 q) s.heap H locs → lv_has ls 10 [(0, .ref (q 0)), (1, .int x1), (2, .int x2), (4, .int x4), (5, .int x5), (6, .int x6), (7, .int x7)] → W p l e rX7_shiftUp s m args below meth c H locs 0 0 (MQ below (va_Qv (S := (Nat → Int32) × (Nat → Int32) × (Nat → Int32)) (fun u => post u.1 u.2.1 u.2.2) (fun u t => va_P D vwCl (w7 cI q th sz sd ss pr me ab be u.1 u.2.1 sg u.2.2) t.heap) (A7 q)) args s 0 0 (A7 q)) (F0 m 28 ls [])))
    (hK113 : (∀ (pi : Nat → Int32) (le : Nat → Int32) (wo : Nat → Int32) (x1 : Int32) (x6 : Int32) (H : Heap) (locs : List Loc) (ls : Array Slot), K113 pi le wo x1 x6 → va_P D vwCl (w7 cI q th sz sd ss pr me ab be pi le sg wo) H → va_S (A7 q) s.heap H locs → lv_has ls 10 [(0, .ref (q 0)), (1, .int x1), (6, .int x6)] → W p l e rX7_shiftUp s m args below meth c H locs 0 0 (MQ below (va_Qv (S := (Nat → Int32) × (Nat → Int32) × (Nat → Int32)) (fun u => post u.1 u.2.1 u.2.2) (fun u t => va_P D vwCl (w7 cI q th sz sd ss pr me ab be u.1 u.2.1 sg u.2.2) t.heap) (A7 q)) args s 0 0 (A7 q)) (F0 m 113 ls [])))
    (pi : Nat → Int32) (le : Nat → Int32) (wo : Nat → Int32) (x1 : Int32) (x2 : Int32) (x4 : Int32) (x5 : Int32) (x6 : Int32) (x7 : Int32) (x8 : Int32) (s0 : Int32) (H : Heap) (locs : List Loc) (ls : Array Slot) (hw : wj_X7_shiftUp_81  post Rc K113 pi le wo x1 x2 x4 x5 x6 x7 x8 s0) (hP : va_P D vwCl (w7 cI q th sz sd ss pr me ab be pi le sg wo) H) (hS : va_S (A7 q) s.heap H locs) (hl : lv_has ls 10 [(0, .ref (q 0)), (1, .int x1), (2, .int x2), (4, .int x4), (5, .int x5), (6, .int x6), (7, .int x7), (8, .int x8)]) : W p l e rX7_shiftUp s m args below meth c H locs 0 0 (MQ below (va_Qv (S := (Nat → Int32) × (Nat → Int32) × (Nat → Int32)) (fun u => post u.1 u.2.1 u.2.2) (fun u t => va_P D vwCl (w7 cI q th sz sd ss pr me ab be u.1 u.2.1 sg u.2.2) t.heap) (A7 q)) args s 0 0 (A7 q)) (F0 m 81 ls [.int s0]) := by
  obtain ⟨hx, hb, hr, hml, hown, hg, hlocks, hK, hap⟩ := id C
  unfold wj_X7_shiftUp_81 at hw
  refine lv_istore (lv' := [(9, .int s0), (0, .ref (q 0)), (1, .int x1), (2, .int x2), (4, .int x4), (5, .int x5), (6, .int x6), (7, .int x7), (8, .int x8)]) hx hb dX7_shiftUp_81 hl (by decide) rfl (fun ls hl => ?_)
  refine lv_aload_n hx hb dX7_shiftUp_83 rfl (lv_at hl 1 rfl) ?_
  refine va_get (D := D) (ci := 7) (v := .ref (q 6)) (C := RX7) (T := TX7) (N := 12) hx hb hg ku_X7 hown hK hP 0 rfl rfl 11 (by decide) (hg _ kf_X7_46) (fun _ h9 => h9) rfl dX7_shiftUp_84 ?_
  refine lv_iload hx hb dX7_shiftUp_87 (lv_at hl 7 rfl) ?_
  refine lv_iload hx hb dX7_shiftUp_89 (lv_at hl 8 rfl) ?_
  refine lv_iload hx hb dX7_shiftUp_91 (lv_at hl 5 rfl) ?_
  refine lv_ishl hx hb dX7_shiftUp_93 ?_
  refine lv_iload hx hb dX7_shiftUp_94 (lv_at hl 0 rfl) ?_
  refine lv_bipush (v := 16) hx hb dX7_shiftUp_96 (by decide) ?_
  refine lv_iload hx hb dX7_shiftUp_98 (lv_at hl 5 rfl) ?_
  refine lv_isub hx hb dX7_shiftUp_100 ?_
  refine lv_ishr hx hb dX7_shiftUp_101 ?_
  refine lv_ior hx hb dX7_shiftUp_102 ?_
  refine lv_ldc (v := 65535) hx hb hown (hg _ kc_X7_57) dX7_shiftUp_103 ?_
  refine lv_iand hx hb dX7_shiftUp_105 ?_
  obtain ⟨hi106, hw⟩ := hw
  refine va_iast (D := D) hx hb hK hP (D7 hap) hS 6 0 rfl rfl hi106 dX7_shiftUp_106 (fun H locs hP _ hS => ?_)
  have hP : va_P D vwCl (w7 cI q th sz sd ss pr me ab be pi le sg (upd wo (x7 : Int32).toNatClampNeg (((x8 <<< (x5 &&& 31)) ||| (s0 >>> ((16 - x5) &&& 31))) &&& 65535))) H := hP
  obtain ⟨x7_107, ex7_107⟩ : ∃ y : Int32, y = x7 + 1 := ⟨_, rfl⟩
  have hw := hw x7_107 ex7_107
  refine lv_iinc (v := x7_107) (lv' := [(7, .int x7_107), (9, .int s0), (0, .ref (q 0)), (1, .int x1), (2, .int x2), (4, .int x4), (5, .int x5), (6, .int x6), (8, .int x8)]) hx hb dX7_shiftUp_107 hl (k := 7) rfl (by rw [ex7_107]; rfl) (by decide) rfl (fun ls hl => ?_)
  refine lv_goto (tgt := 28) hx hb dX7_shiftUp_110 (by decide) ?_
  exact hRc _ _ _ _ _ _ _ _ _ _ _ _ hw hP hS (lv_sub hl [2, 3, 4, 5, 6, 7, 0] rfl)
set_option maxHeartbeats 4000000 in
set_option maxRecDepth 100000 in
theorem mj_X7_shiftUp_56 (C : C7 p s m args meth c D cI q cX7_shiftUp 10 none) (th : Int32) (sz : Int32) (sd : Int32) (ss : Int32) (pr : Int32) (me : Int32) (ab : Nat → Int32) (be : Nat → Int32) (sg : Nat → Int32) (post : (Nat → Int32) → (Nat → Int32) → (Nat → Int32) → Prop) (Rc : (Nat → Int32) → (Nat → Int32) → (Nat → Int32) → Int32 → Int32 → Int32 → Int32 → Int32 → Int32 → Prop) (K113 : (Nat → Int32) → (Nat → Int32) → (Nat → Int32) → Int32 → Int32 → Prop)
    (hRc : (∀ (pi : Nat → Int32) (le : Nat → Int32) (wo : Nat → Int32) (x1 : Int32) (x2 : Int32) (x4 : Int32) (x5 : Int32) (x6 : Int32) (x7 : Int32) (H : Heap) (locs : List Loc) (ls : Array Slot), Rc pi le wo x1 x2 x4 x5 x6 x7 → va_P D vwCl (w7 cI q th sz sd ss pr me ab be pi le sg wo) H → va_S (A7 q) s.heap H locs → lv_has ls 10 [(0, .ref (q 0)), (1, .int x1), (2, .int x2), (4, .int x4), (5, .int x5), (6, .int x6), (7, .int x7)] → W p l e rX7_shiftUp s m args below meth c H locs 0 0 (MQ below (va_Qv (S := (Nat → Int32) × (Nat → Int32) × (Nat → Int32)) (fun u => post u.1 u.2.1 u.2.2) (fun u t => va_P D vwCl (w7 cI q th sz sd ss pr me ab be u.1 u.2.1 sg u.2.2) t.heap) (A7 q)) args s 0 0 (A7 q)) (F0 m 28 ls [])))
    (hK113 : (∀ (pi : Nat → Int32) (le : Nat → Int32) (wo : Nat → Int32) (x1 : Int32) (x6 : Int32) (H : Heap) (locs : List Loc) (ls : Array Slot), K113 pi le wo x1 x6 → va_P D vwCl (w7 cI q th sz sd ss pr me ab be pi le sg wo) H → va_S (A7 q) s.heap H locs → lv_has ls 10 [(0, .ref (q 0)), (1, .int x1), (6, .int x6)] → W p l e rX7_shiftUp s m args below meth c H locs 0 0 (MQ below (va_Qv (S := (Nat → Int32) × (Nat → Int32) × (Nat → Int32)) (fun u => post u.1 u.2.1 u.2.2) (fun u t => va_P D vwCl (w7 cI q th sz sd ss pr me ab be u.1 u.2.1 sg u.2.2) t.heap) (A7 q)) args s 0 0 (A7 q)) (F0 m 113 ls [])))
    (pi : Nat → Int32) (le : Nat → Int32) (wo : Nat → Int32) (x1 : Int32) (x2 : Int32) (x4 : Int32) (x5 : Int32) (x6 : Int32) (x7 : Int32) (s0 : Int32) (H : Heap) (locs : List Loc) (ls : Array Slot) (hw : wj_X7_shiftUp_56  post Rc K113 pi le wo x1 x2 x4 x5 x6 x7 s0) (hP : va_P D vwCl (w7 cI q th sz sd ss pr me ab be pi le sg wo) H) (hS : va_S (A7 q) s.heap H locs) (hl : lv_has ls 10 [(0, .ref (q 0)), (1, .int x1), (2, .int x2), (4, .int x4), (5, .int x5), (6, .int x6), (7, .int x7)]) : W p l e rX7_shiftUp s m args below meth c H locs 0 0 (MQ below (va_Qv (S := (Nat → Int32) × (Nat → Int32) × (Nat → Int32)) (fun u => post u.1 u.2.1 u.2.2) (fun u t => va_P D vwCl (w7 cI q th sz sd ss pr me ab be u.1 u.2.1 sg u.2.2) t.heap) (A7 q)) args s 0 0 (A7 q)) (F0 m 56 ls [.int s0]) := by
  obtain ⟨hx, hb, hr, hml, hown, hg, hlocks, hK, hap⟩ := id C
  unfold wj_X7_shiftUp_56 at hw
  refine lv_istore (lv' := [(8, .int s0), (0, .ref (q 0)), (1, .int x1), (2, .int x2), (4, .int x4), (5, .int x5), (6, .int x6), (7, .int x7)]) hx hb dX7_shiftUp_56 hl (by decide) rfl (fun ls hl => ?_)
  refine lv_iload hx hb dX7_shiftUp_58 (lv_at hl 7 rfl) ?_
  refine lv_iload hx hb dX7_shiftUp_60 (lv_at hl 4 rfl) ?_
  refine lv_icmp_le (tgt := 80) hx hb dX7_shiftUp_62 (by decide) (fun hc62 => ?_) (fun hc62 => ?_)
  · have hw := hw.1 hc62
    refine lv_iconst (v := 0) hx hb dX7_shiftUp_80 (by decide) ?_
    exact mj_X7_shiftUp_81 C th sz sd ss pr me ab be sg post _ _ (hRc) hK113 _ _ _ _ _ _ _ _ _ _ _ _ _ _ hw hP hS (lv_sub hl [1, 2, 3, 4, 5, 6, 7, 0] rfl)
  · have hw := hw.2 hc62
    refine lv_aload_n hx hb dX7_shiftUp_65 rfl (lv_at hl 1 rfl) ?_
    refine lv_iload_n hx hb dX7_shiftUp_66 rfl (lv_at hl 3 rfl) ?_
    refine lv_iload hx hb dX7_shiftUp_67 (lv_at hl 7 rfl) ?_
    refine lv_iload hx hb dX7_shiftUp_69 (lv_at hl 4 rfl) ?_
    refine lv_isub hx hb dX7_shiftUp_71 ?_
    refine lv_iconst (v := 1) hx hb dX7_shiftUp_72 (by decide) ?_
    refine lv_isub hx hb dX7_shiftUp_73 ?_
    refine va_calli (va_runV (As := [.int x2, .int ((x7 - x4) - 1)]) (rest := []) ⟨hx, hb, hml, hown, hg⟩ (m_X7_digit l D cI q th sz sd ss pr me ab be pi le sg wo x2 ((x7 - x4) - 1) _ hw) (cwV 2 hg (x_gV km_X7_62 ki_X7_digit kz_X7_X7_digit kn_X7 kk_X7_digit) rfl rfl rfl (by decide +kernel) ⟨Nat.le_of_ble_eq_true rfl, Nat.le_of_ble_eq_true rfl⟩) (pre7V hP hK hap [.int x2, .int ((x7 - x4) - 1)]) rfl rfl hl.1 rfl (lv_room (Nat.le_of_ble_eq_true rfl)) dX7_shiftUp_74 ⟨Nat.zero_le _, Nat.zero_le _⟩) hS (fun _ _ h => h) (fun _ h => h) (fun r_74 u t H locs ht hvm hw hP hz1 hk1 hS => ?_)
    rw [ht] at hP; clear hz1 hk1 ht hvm
    try dsimp only at hw
    try dsimp only at hP
    refine lv_goto (tgt := 81) hx hb dX7_shiftUp_77 (by decide) ?_
    exact mj_X7_shiftUp_81 C th sz sd ss pr me ab be sg post _ _ (hRc) hK113 _ _ _ _ _ _ _ _ _ _ _ _ _ _ hw hP hS (lv_sub hl [1, 2, 3, 4, 5, 6, 7, 0] rfl)
set_option maxHeartbeats 4000000 in
set_option maxRecDepth 100000 in
theorem ml_X7_shiftUp_28 (C : C7 p s m args meth c D cI q cX7_shiftUp 10 none) (th : Int32) (sz : Int32) (sd : Int32) (ss : Int32) (pr : Int32) (me : Int32) (ab : Nat → Int32) (be : Nat → Int32) (sg : Nat → Int32) (post : (Nat → Int32) → (Nat → Int32) → (Nat → Int32) → Prop) (K113 : (Nat → Int32) → (Nat → Int32) → (Nat → Int32) → Int32 → Int32 → Prop)
    (hK113 : (∀ (pi : Nat → Int32) (le : Nat → Int32) (wo : Nat → Int32) (x1 : Int32) (x6 : Int32) (H : Heap) (locs : List Loc) (ls : Array Slot), K113 pi le wo x1 x6 → va_P D vwCl (w7 cI q th sz sd ss pr me ab be pi le sg wo) H → va_S (A7 q) s.heap H locs → lv_has ls 10 [(0, .ref (q 0)), (1, .int x1), (6, .int x6)] → W p l e rX7_shiftUp s m args below meth c H locs 0 0 (MQ below (va_Qv (S := (Nat → Int32) × (Nat → Int32) × (Nat → Int32)) (fun u => post u.1 u.2.1 u.2.2) (fun u t => va_P D vwCl (w7 cI q th sz sd ss pr me ab be u.1 u.2.1 sg u.2.2) t.heap) (A7 q)) args s 0 0 (A7 q)) (F0 m 113 ls []))) :
    ∀ (n : Nat) (pi : Nat → Int32) (le : Nat → Int32) (wo : Nat → Int32) (x1 : Int32) (x2 : Int32) (x4 : Int32) (x5 : Int32) (x6 : Int32) (x7 : Int32) (H : Heap) (locs : List Loc) (ls : Array Slot), wl_X7_shiftUp_28  post K113 n pi le wo x1 x2 x4 x5 x6 x7 → va_P D vwCl (w7 cI q th sz sd ss pr me ab be pi le sg wo) H → va_S (A7 q) s.heap H locs → lv_has ls 10 [(0, .ref (q 0)), (1, .int x1), (2, .int x2), (4, .int x4), (5, .int x5), (6, .int x6), (7, .int x7)] → W p l e rX7_shiftUp s m args below meth c H locs 0 0 (MQ below (va_Qv (S := (Nat → Int32) × (Nat → Int32) × (Nat → Int32)) (fun u => post u.1 u.2.1 u.2.2) (fun u t => va_P D vwCl (w7 cI q th sz sd ss pr me ab be u.1 u.2.1 sg u.2.2) t.heap) (A7 q)) args s 0 0 (A7 q)) (F0 m 28 ls []) := by
  obtain ⟨hx, hb, hr, hml, hown, hg, hlocks, hK, hap⟩ := id C
  intro n
  induction n with
  | zero => intro pi le wo x1 x2 x4 x5 x6 x7 H locs ls hw; exact absurd hw id
  | succ n ih =>
    intro pi le wo x1 x2 x4 x5 x6 x7 H locs ls hw hP hS hl
    refine lv_iload hx hb dX7_shiftUp_28 (lv_at hl 6 rfl) ?_
    refine lv_iload hx hb dX7_shiftUp_30 (lv_at hl 5 rfl) ?_
    refine lv_icmp_ge (tgt := 113) hx hb dX7_shiftUp_32 (by decide) (fun hc32 => ?_) (fun hc32 => ?_)
    · have hw := hw.1 hc32
      exact hK113 _ _ _ _ _ _ _ _ hw hP hS (lv_sub hl [0, 1, 5] rfl)
    · have hw := hw.2 hc32
      refine lv_iload hx hb dX7_shiftUp_35 (lv_at hl 6 rfl) ?_
      refine lv_iload hx hb dX7_shiftUp_37 (lv_at hl 3 rfl) ?_
      refine lv_icmp_lt (tgt := 55) hx hb dX7_shiftUp_39 (by decide) (fun hc39 => ?_) (fun hc39 => ?_)
      · have hw := hw.1 hc39
        refine lv_iconst (v := 0) hx hb dX7_shiftUp_55 (by decide) ?_
        exact mj_X7_shiftUp_56 C th sz sd ss pr me ab be sg post _ _ (ih) hK113 _ _ _ _ _ _ _ _ _ _ _ _ _ hw hP hS (lv_sub hl [0, 1, 2, 3, 4, 5, 6] rfl)
      · have hw := hw.2 hc39
        refine lv_aload_n hx hb dX7_shiftUp_42 rfl (lv_at hl 0 rfl) ?_
        refine lv_iload_n hx hb dX7_shiftUp_43 rfl (lv_at hl 2 rfl) ?_
        refine lv_iload hx hb dX7_shiftUp_44 (lv_at hl 6 rfl) ?_
        refine lv_iload hx hb dX7_shiftUp_46 (lv_at hl 3 rfl) ?_
        refine lv_isub hx hb dX7_shiftUp_48 ?_
        refine va_calli (va_runV (As := [.int x2, .int (x7 - x4)]) (rest := []) ⟨hx, hb, hml, hown, hg⟩ (m_X7_digit l D cI q th sz sd ss pr me ab be pi le sg wo x2 (x7 - x4) _ hw) (cwV 2 hg (x_gV km_X7_62 ki_X7_digit kz_X7_X7_digit kn_X7 kk_X7_digit) rfl rfl rfl (by decide +kernel) ⟨Nat.le_of_ble_eq_true rfl, Nat.le_of_ble_eq_true rfl⟩) (pre7V hP hK hap [.int x2, .int (x7 - x4)]) rfl rfl hl.1 rfl (lv_room (Nat.le_of_ble_eq_true rfl)) dX7_shiftUp_49 ⟨Nat.zero_le _, Nat.zero_le _⟩) hS (fun _ _ h => h) (fun _ h => h) (fun r_49 u t H locs ht hvm hw hP hz1 hk1 hS => ?_)
        rw [ht] at hP; clear hz1 hk1 ht hvm
        try dsimp only at hw
        try dsimp only at hP
        refine lv_goto (tgt := 56) hx hb dX7_shiftUp_52 (by decide) ?_
        exact mj_X7_shiftUp_56 C th sz sd ss pr me ab be sg post _ _ (ih) hK113 _ _ _ _ _ _ _ _ _ _ _ _ _ hw hP hS (lv_sub hl [0, 1, 2, 3, 4, 5, 6] rfl)
set_option maxHeartbeats 4000000 in
set_option maxRecDepth 100000 in
theorem m_X7_shiftUp (l : Launch) (D : va_G) (cI : ClassId) (q : Nat → Nat) (th : Int32) (sz : Int32) (sd : Int32) (ss : Int32) (pr : Int32) (me : Int32) (ab : Nat → Int32) (be : Nat → Int32) (pi : Nat → Int32) (le : Nat → Int32) (sg : Nat → Int32) (wo : Nat → Int32) (x1 : Int32) (x2 : Int32) (x3 : Int32) (post : (Nat → Int32) → (Nat → Int32) → (Nat → Int32) → Prop) (hw : wp_X7_shiftUp pi le wo x1 x2 x3 post) : Met l yX7_shiftUp (wu yX7_shiftUp cX7_shiftUp 10 none) rX7_shiftUp (va_Pc [.ref (q 0), .int x1, .int x2, .int x3] (fun U => va_P D vwCl (w7 cI q th sz sd ss pr me ab be pi le sg wo) U.heap ∧ K7 D cI q U)) (va_Qv (S := (Nat → Int32) × (Nat → Int32) × (Nat → Int32)) (fun u => post u.1 u.2.1 u.2.2) (fun u t => va_P D vwCl (w7 cI q th sz sd ss pr me ab be u.1 u.2.1 sg u.2.2) t.heap) (A7 q)) 0 0 (A7 q) := by
  refine Met.ofW (cc := cX7_shiftUp) (maxL := 10) (ret := none) (by decide) rfl ?_
  intro p e s m args below meth c s₁ B hml hv
  obtain ⟨rfl, hP, hK, hap⟩ := hv
  have C : C7 p s m _ meth c D cI q cX7_shiftUp 10 none := ⟨B.exec, B.bytes, B.returns, hml, findClass_of_methodNamed B.named, x_hg (atoms_spec (ws := wu yX7_shiftUp cX7_shiftUp 10 none) B.pre), B.notSynchronized, hK, hap⟩
  obtain ⟨hx, hb, hr, hml, hown, hg, hlocks, hK, hap⟩ := id C
  have hS : va_S (A7 q) s.heap s.heap [] := va_S.rf
  have hl := lv_entry ([.ref (q 0), .int x1, .int x2, .int x3]) (n := 10) (Nat.le_of_ble_eq_true rfl)
  rw [lg_entry_eq]
  generalize (lg_sl ([.ref (q 0), .int x1, .int x2, .int x3]) ++ List.replicate (10 - (lg_sl ([.ref (q 0), .int x1, .int x2, .int x3])).length) Slot.unset).toArray = ls at hl ⊢
  have hl : lv_has ls 10 [(0, .ref (q 0)), (1, .int x1), (2, .int x2), (3, .int x3)] := hl
  unfold wp_X7_shiftUp at hw
  refine lv_iload_n hx hb dX7_shiftUp_0 rfl (lv_at hl 3 rfl) ?_
  refine lv_bipush (v := 16) hx hb dX7_shiftUp_1 (by decide) ?_
  refine lv_idiv hx hb dX7_shiftUp_3 (by decide) ?_
  refine lv_topi (fun x4_4 ex4_4 => ?_)
  have hw := hw x4_4 ex4_4
  refine lv_istore (lv' := [(4, .int x4_4), (0, .ref (q 0)), (1, .int x1), (2, .int x2), (3, .int x3)]) hx hb dX7_shiftUp_4 hl (by decide) rfl (fun ls hl => ?_)
  refine lv_iload_n hx hb dX7_shiftUp_6 rfl (lv_at hl 4 rfl) ?_
  refine lv_bipush (v := 16) hx hb dX7_shiftUp_7 (by decide) ?_
  refine lv_irem hx hb dX7_shiftUp_9 (by decide) ?_
  refine lv_topi (fun x5_10 ex5_10 => ?_)
  have hw := hw x5_10 ex5_10
  refine lv_istore (lv' := [(5, .int x5_10), (4, .int x4_4), (0, .ref (q 0)), (1, .int x1), (2, .int x2), (3, .int x3)]) hx hb dX7_shiftUp_10 hl (by decide) rfl (fun ls hl => ?_)
  refine lv_aload_n hx hb dX7_shiftUp_12 rfl (lv_at hl 2 rfl) ?_
  refine va_get (D := D) (ci := 7) (v := .ref (q 4)) (C := RX7) (T := TX7) (N := 12) hx hb hg ku_X7 hown hK hP 0 rfl rfl 9 (by decide) (hg _ kf_X7_40) (fun _ h9 => h9) rfl dX7_shiftUp_13 ?_
  refine lv_iload_n hx hb dX7_shiftUp_16 rfl (lv_at hl 4 rfl) ?_
  obtain ⟨hi17, hw⟩ := hw
  refine va_iald (D := D) hx hb hK hP 4 0 rfl rfl hi17 dX7_shiftUp_17 ?_
  refine lv_iload hx hb dX7_shiftUp_18 (lv_at hl 1 rfl) ?_
  refine lv_iadd hx hb dX7_shiftUp_20 ?_
  refine lv_iconst (v := 1) hx hb dX7_shiftUp_21 (by decide) ?_
  refine lv_iadd hx hb dX7_shiftUp_22 ?_
  refine lv_topi (fun x6_23 ex6_23 => ?_)
  have hw := hw x6_23 ex6_23
  refine lv_istore (lv' := [(6, .int x6_23), (5, .int x5_10), (4, .int x4_4), (0, .ref (q 0)), (1, .int x1), (2, .int x2), (3, .int x3)]) hx hb dX7_shiftUp_23 hl (by decide) rfl (fun ls hl => ?_)
  refine lv_iconst (v := 0) hx hb dX7_shiftUp_25 (by decide) ?_
  refine lv_istore (lv' := [(7, .int 0), (6, .int x6_23), (5, .int x5_10), (4, .int x4_4), (0, .ref (q 0)), (1, .int x1), (2, .int x2), (3, .int x3)]) hx hb dX7_shiftUp_26 hl (by decide) rfl (fun ls hl => ?_)
  obtain ⟨n28, hw⟩ := hw
  refine ml_X7_shiftUp_28 C th sz sd ss pr me ab be sg post _ ?_ n28 _ _ _ _ _ _ _ _ _ _ _ _ hw hP hS (lv_sub hl [4, 5, 6, 3, 2, 1, 0] rfl)
  · intro pi le wo x1 x6 H locs ls hw hP hS hl
    refine lv_aload_n hx hb dX7_shiftUp_113 rfl (lv_at hl 0 rfl) ?_
    refine lv_iload_n hx hb dX7_shiftUp_114 rfl (lv_at hl 1 rfl) ?_
    refine lv_iload hx hb dX7_shiftUp_115 (lv_at hl 2 rfl) ?_
    refine va_callv (va_runV (As := [.int x1, .int x6]) (rest := []) ⟨hx, hb, hml, hown, hg⟩ (m_X7_take l D cI q th sz sd ss pr me ab be pi le sg wo x1 x6 _ hw) (cwV 2 hg (x_gV km_X7_58 ki_X7_take kz_X7_X7_take kn_X7 kk_X7_take) rfl rfl rfl (by decide +kernel) ⟨Nat.le_of_ble_eq_true rfl, Nat.le_of_ble_eq_true rfl⟩) (pre7V hP hK hap [.int x1, .int x6]) rfl rfl hl.1 rfl (lv_room (Nat.le_of_ble_eq_true rfl)) dX7_shiftUp_117 ⟨Nat.zero_le _, Nat.zero_le _⟩) hS (fun _ _ h => h) (fun _ h => h) (fun  u t H locs ht hvm hw hP hz1 hk1 hS => ?_)
    obtain ⟨pi_117, le_117⟩ := u
    rw [ht] at hP; clear hz1 hk1 ht hvm
    try dsimp only at hw
    try dsimp only at hP
    exact W.vret hx hb hr (fun t ht hW => ⟨⟨(pi_117, le_117, wo), rfl, hw, by show va_P D vwCl _ t.heap; rw [ht]; exact hP⟩, hS.F ht⟩) hS.2.2 dX7_shiftUp_120 hlocks
-- ===== ExactFilterModel.shiftDown
abbrev rX7_shiftDown : Room := { frames := 1, cells := 0, slots := 0, locals := 24 }
def wl_X7_shiftDown_11  (post : (Nat → Int32) → (Nat → Int32) → (Nat → Int32) → Prop) (K58 : (Nat → Int32) → (Nat → Int32) → (Nat → Int32) → Int32 → Int32 → Prop) : Nat → (Nat → Int32) → (Nat → Int32) → (Nat → Int32) → Int32 → Int32 → Int32 → Int32 → Int32 → Prop
  | 0, _, _, _, _, _, _, _, _ => False
  | n + 1, pi, le, wo, x1, x2, x3, x4, x5 => (x4 ≤ x5 → K58 pi le wo x1 x4) ∧ (¬ x4 ≤ x5 → wp_X7_digit pi le x2 x5 (fun (r_28 : Int32) => wp_X7_digit pi le x2 (x5 + 1) (fun (r_39 : Int32) => vp_in x5 3010 ∧ ∀ (x5_52 : Int32), x5_52 = x5 + 1 → wl_X7_shiftDown_11  post K58 n pi le (upd wo (x5 : Int32).toNatClampNeg (((r_28 >>> (x3 &&& 31)) ||| (r_39 <<< ((16 - x3) &&& 31))) &&& 65535)) x1 x2 x3 x4 x5_52)))
def wp_X7_shiftDown (pi : Nat → Int32) (le : Nat → Int32) (wo : Nat → Int32) (x1 : Int32) (x2 : Int32) (x3 : Int32) (post : (Nat → Int32) → (Nat → Int32) → (Nat → Int32) → Prop) : Prop := vp_in x2 64 ∧ ∀ (x4_6 : Int32), x4_6 = (le (x2 : Int32).toNatClampNeg) → ∃ n11 : Nat, wl_X7_shiftDown_11  post (fun (pi : Nat → Int32) (le : Nat → Int32) (wo : Nat → Int32) (x1 : Int32) (x4 : Int32) => wp_X7_take pi le wo x1 x4 (fun (pi_62 : Nat → Int32) (le_62 : Nat → Int32) => post pi_62 le_62 wo)) n11 pi le wo x1 x2 x3 x4_6 0
set_option maxHeartbeats 4000000 in
set_option maxRecDepth 100000 in
theorem ml_X7_shiftDown_11 (C : C7 p s m args meth c D cI q cX7_shiftDown 6 none) (th : Int32) (sz : Int32) (sd : Int32) (ss : Int32) (pr : Int32) (me : Int32) (ab : Nat → Int32) (be : Nat → Int32) (sg : Nat → Int32) (post : (Nat → Int32) → (Nat → Int32) → (Nat → Int32) → Prop) (K58 : (Nat → Int32) → (Nat → Int32) → (Nat → Int32) → Int32 → Int32 → Prop)
    (hK58 : (∀ (pi : Nat → Int32) (le : Nat → Int32) (wo : Nat → Int32) (x1 : Int32) (x4 : Int32) (H : Heap) (locs : List Loc) (ls : Array Slot), K58 pi le wo x1 x4 → va_P D vwCl (w7 cI q th sz sd ss pr me ab be pi le sg wo) H → va_S (A7 q) s.heap H locs → lv_has ls 6 [(0, .ref (q 0)), (1, .int x1), (4, .int x4)] → W p l e rX7_shiftDown s m args below meth c H locs 0 0 (MQ below (va_Qv (S := (Nat → Int32) × (Nat → Int32) × (Nat → Int32)) (fun u => post u.1 u.2.1 u.2.2) (fun u t => va_P D vwCl (w7 cI q th sz sd ss pr me ab be u.1 u.2.1 sg u.2.2) t.heap) (A7 q)) args s 0 0 (A7 q)) (F0 m 58 ls []))) :
    ∀ (n : Nat) (pi : Nat → Int32) (le : Nat → Int32) (wo : Nat → Int32) (x1 : Int32) (x2 : Int32) (x3 : Int32) (x4 : Int32) (x5 : Int32) (H : Heap) (locs : List Loc) (ls : Array Slot), wl_X7_shiftDown_11  post K58 n pi le wo x1 x2 x3 x4 x5 → va_P D vwCl (w7 cI q th sz sd ss pr me ab be pi le sg wo) H → va_S (A7 q) s.heap H locs → lv_has ls 6 [(0, .ref (q 0)), (1, .int x1), (2, .int x2), (3, .int x3), (4, .int x4), (5, .int x5)] → W p l e rX7_shiftDown s m args below meth c H locs 0 0 (MQ below (va_Qv (S := (Nat → Int32) × (Nat → Int32) × (Nat → Int32)) (fun u => post u.1 u.2.1 u.2.2) (fun u t => va_P D vwCl (w7 cI q th sz sd ss pr me ab be u.1 u.2.1 sg u.2.2) t.heap) (A7 q)) args s 0 0 (A7 q)) (F0 m 11 ls []) := by
  obtain ⟨hx, hb, hr, hml, hown, hg, hlocks, hK, hap⟩ := id C
  intro n
  induction n with
  | zero => intro pi le wo x1 x2 x3 x4 x5 H locs ls hw; exact absurd hw id
  | succ n ih =>
    intro pi le wo x1 x2 x3 x4 x5 H locs ls hw hP hS hl
    refine lv_iload hx hb dX7_shiftDown_11 (lv_at hl 5 rfl) ?_
    refine lv_iload hx hb dX7_shiftDown_13 (lv_at hl 4 rfl) ?_
    refine lv_icmp_ge (tgt := 58) hx hb dX7_shiftDown_15 (by decide) (fun hc15 => ?_) (fun hc15 => ?_)
    · have hw := hw.1 hc15
      exact hK58 _ _ _ _ _ _ _ _ hw hP hS (lv_sub hl [0, 1, 4] rfl)
    · have hw := hw.2 hc15
      refine lv_aload_n hx hb dX7_shiftDown_18 rfl (lv_at hl 0 rfl) ?_
      refine va_get (D := D) (ci := 7) (v := .ref (q 6)) (C := RX7) (T := TX7) (N := 12) hx hb hg ku_X7 hown hK hP 0 rfl rfl 11 (by decide) (hg _ kf_X7_46) (fun _ h9 => h9) rfl dX7_shiftDown_19 ?_
      refine lv_iload hx hb dX7_shiftDown_22 (lv_at hl 5 rfl) ?_
      refine lv_aload_n hx hb dX7_shiftDown_24 rfl (lv_at hl 0 rfl) ?_
      refine lv_iload_n hx hb dX7_shiftDown_25 rfl (lv_at hl 2 rfl) ?_
      refine lv_iload hx hb dX7_shiftDown_26 (lv_at hl 5 rfl) ?_
      refine va_calli (va_runV (As := [.int x2, .int x5]) (rest := [.int x5, .ref (q 6)]) ⟨hx, hb, hml, hown, hg⟩ (m_X7_digit l D cI q th sz sd ss pr me ab be pi le sg wo x2 x5 _ hw) (cwV 2 hg (x_gV km_X7_62 ki_X7_digit kz_X7_X7_digit kn_X7 kk_X7_digit) rfl rfl rfl (by decide +kernel) ⟨Nat.le_of_ble_eq_true rfl, Nat.le_of_ble_eq_true rfl⟩) (pre7V hP hK hap [.int x2, .int x5]) rfl rfl hl.1 rfl (lv_room (Nat.le_of_ble_eq_true rfl)) dX7_shiftDown_28 ⟨Nat.zero_le _, Nat.zero_le _⟩) hS (fun _ _ h => h) (fun _ h => h) (fun r_28 u t H locs ht hvm hw hP hz1 hk1 hS => ?_)
      rw [ht] at hP; clear hz1 hk1 ht hvm
      try dsimp only at hw
      try dsimp only at hP
      refine lv_iload_n hx hb dX7_shiftDown_31 rfl (lv_at hl 3 rfl) ?_
      refine lv_ishr hx hb dX7_shiftDown_32 ?_
      refine lv_aload_n hx hb dX7_shiftDown_33 rfl (lv_at hl 0 rfl) ?_
      refine lv_iload_n hx hb dX7_shiftDown_34 rfl (lv_at hl 2 rfl) ?_
      refine lv_iload hx hb dX7_shiftDown_35 (lv_at hl 5 rfl) ?_
      refine lv_iconst (v := 1) hx hb dX7_shiftDown_37 (by decide) ?_
      refine lv_iadd hx hb dX7_shiftDown_38 ?_
      refine va_calli (va_runV (As := [.int x2, .int (x5 + 1)]) (rest := [.int (r_28 >>> (x3 &&& 31)), .int x5, .ref (q 6)]) ⟨hx, hb, hml, hown, hg⟩ (m_X7_digit l D cI q th sz sd ss pr me ab be pi le sg wo x2 (x5 + 1) _ hw) (cwV 2 hg (x_gV km_X7_62 ki_X7_digit kz_X7_X7_digit kn_X7 kk_X7_digit) rfl rfl rfl (by decide +kernel) ⟨Nat.le_of_ble_eq_true rfl, Nat.le_of_ble_eq_true rfl⟩) (pre7V hP hK hap [.int x2, .int (x5 + 1)]) rfl rfl hl.1 rfl (lv_room (Nat.le_of_ble_eq_true rfl)) dX7_shiftDown_39 ⟨Nat.zero_le _, Nat.zero_le _⟩) hS (fun _ _ h => h) (fun _ h => h) (fun r_39 u t H locs ht hvm hw hP hz1 hk1 hS => ?_)
      rw [ht] at hP; clear hz1 hk1 ht hvm
      try dsimp only at hw
      try dsimp only at hP
      refine lv_bipush (v := 16) hx hb dX7_shiftDown_42 (by decide) ?_
      refine lv_iload_n hx hb dX7_shiftDown_44 rfl (lv_at hl 3 rfl) ?_
      refine lv_isub hx hb dX7_shiftDown_45 ?_
      refine lv_ishl hx hb dX7_shiftDown_46 ?_
      refine lv_ior hx hb dX7_shiftDown_47 ?_
      refine lv_ldc (v := 65535) hx hb hown (hg _ kc_X7_57) dX7_shiftDown_48 ?_
      refine lv_iand hx hb dX7_shiftDown_50 ?_
      obtain ⟨hi51, hw⟩ := hw
      refine va_iast (D := D) hx hb hK hP (D7 hap) hS 6 0 rfl rfl hi51 dX7_shiftDown_51 (fun H locs hP _ hS => ?_)
      have hP : va_P D vwCl (w7 cI q th sz sd ss pr me ab be pi le sg (upd wo (x5 : Int32).toNatClampNeg (((r_28 >>> (x3 &&& 31)) ||| (r_39 <<< ((16 - x3) &&& 31))) &&& 65535))) H := hP
      obtain ⟨x5_52, ex5_52⟩ : ∃ y : Int32, y = x5 + 1 := ⟨_, rfl⟩
      have hw := hw x5_52 ex5_52
      refine lv_iinc (v := x5_52) (lv' := [(5, .int x5_52), (0, .ref (q 0)), (1, .int x1), (2, .int x2), (3, .int x3), (4, .int x4)]) hx hb dX7_shiftDown_52 hl (k := 5) rfl (by rw [ex5_52]; rfl) (by decide) rfl (fun ls hl => ?_)
      refine lv_goto (tgt := 11) hx hb dX7_shiftDown_55 (by decide) ?_
      exact ih _ _ _ _ _ _ _ _ _ _ _ hw hP hS (lv_sub hl [1, 2, 3, 4, 5, 0] rfl)
set_option maxHeartbeats 4000000 in
set_option maxRecDepth 100000 in
theorem m_X7_shiftDown (l : Launch) (D : va_G) (cI : ClassId) (q : Nat → Nat) (th : Int32) (sz : Int32) (sd : Int32) (ss : Int32) (pr : Int32) (me : Int32) (ab : Nat → Int32) (be : Nat → Int32) (pi : Nat → Int32) (le : Nat → Int32) (sg : Nat → Int32) (wo : Nat → Int32) (x1 : Int32) (x2 : Int32) (x3 : Int32) (post : (Nat → Int32) → (Nat → Int32) → (Nat → Int32) → Prop) (hw : wp_X7_shiftDown pi le wo x1 x2 x3 post) : Met l yX7_shiftDown (wu yX7_shiftDown cX7_shiftDown 6 none) rX7_shiftDown (va_Pc [.ref (q 0), .int x1, .int x2, .int x3] (fun U => va_P D vwCl (w7 cI q th sz sd ss pr me ab be pi le sg wo) U.heap ∧ K7 D cI q U)) (va_Qv (S := (Nat → Int32) × (Nat → Int32) × (Nat → Int32)) (fun u => post u.1 u.2.1 u.2.2) (fun u t => va_P D vwCl (w7 cI q th sz sd ss pr me ab be u.1 u.2.1 sg u.2.2) t.heap) (A7 q)) 0 0 (A7 q) := by
  refine Met.ofW (cc := cX7_shiftDown) (maxL := 6) (ret := none) (by decide) rfl ?_
  intro p e s m args below meth c s₁ B hml hv
  obtain ⟨rfl, hP, hK, hap⟩ := hv
  have C : C7 p s m _ meth c D cI q cX7_shiftDown 6 none := ⟨B.exec, B.bytes, B.returns, hml, findClass_of_methodNamed B.named, x_hg (atoms_spec (ws := wu yX7_shiftDown cX7_shiftDown 6 none) B.pre), B.notSynchronized, hK, hap⟩
  obtain ⟨hx, hb, hr, hml, hown, hg, hlocks, hK, hap⟩ := id C
  have hS : va_S (A7 q) s.heap s.heap [] := va_S.rf
  have hl := lv_entry ([.ref (q 0), .int x1, .int x2, .int x3]) (n := 6) (Nat.le_of_ble_eq_true rfl)
  rw [lg_entry_eq]
  generalize (lg_sl ([.ref (q 0), .int x1, .int x2, .int x3]) ++ List.replicate (6 - (lg_sl ([.ref (q 0), .int x1, .int x2, .int x3])).length) Slot.unset).toArray = ls at hl ⊢
  have hl : lv_has ls 6 [(0, .ref (q 0)), (1, .int x1), (2, .int x2), (3, .int x3)] := hl
  unfold wp_X7_shiftDown at hw
  refine lv_aload_n hx hb dX7_shiftDown_0 rfl (lv_at hl 0 rfl) ?_
  refine va_get (D := D) (ci := 7) (v := .ref (q 4)) (C := RX7) (T := TX7) (N := 12) hx hb hg ku_X7 hown hK hP 0 rfl rfl 9 (by decide) (hg _ kf_X7_40) (fun _ h9 => h9) rfl dX7_shiftDown_1 ?_
  refine lv_iload_n hx hb dX7_shiftDown_4 rfl (lv_at hl 2 rfl) ?_
  obtain ⟨hi5, hw⟩ := hw
  refine va_iald (D := D) hx hb hK hP 4 0 rfl rfl hi5 dX7_shiftDown_5 ?_
  refine lv_topi (fun x4_6 ex4_6 => ?_)
  have hw := hw x4_6 ex4_6
  refine lv_istore (lv' := [(4, .int x4_6), (0, .ref (q 0)), (1, .int x1), (2, .int x2), (3, .int x3)]) hx hb dX7_shiftDown_6 hl (by decide) rfl (fun ls hl => ?_)
  refine lv_iconst (v := 0) hx hb dX7_shiftDown_8 (by decide) ?_
  refine lv_istore (lv' := [(5, .int 0), (4, .int x4_6), (0, .ref (q 0)), (1, .int x1), (2, .int x2), (3, .int x3)]) hx hb dX7_shiftDown_9 hl (by decide) rfl (fun ls hl => ?_)
  obtain ⟨n11, hw⟩ := hw
  refine ml_X7_shiftDown_11 C th sz sd ss pr me ab be sg post _ ?_ n11 _ _ _ _ _ _ _ _ _ _ _ hw hP hS (lv_sub hl [2, 3, 4, 5, 1, 0] rfl)
  · intro pi le wo x1 x4 H locs ls hw hP hS hl
    refine lv_aload_n hx hb dX7_shiftDown_58 rfl (lv_at hl 0 rfl) ?_
    refine lv_iload_n hx hb dX7_shiftDown_59 rfl (lv_at hl 1 rfl) ?_
    refine lv_iload hx hb dX7_shiftDown_60 (lv_at hl 2 rfl) ?_
    refine va_callv (va_runV (As := [.int x1, .int x4]) (rest := []) ⟨hx, hb, hml, hown, hg⟩ (m_X7_take l D cI q th sz sd ss pr me ab be pi le sg wo x1 x4 _ hw) (cwV 2 hg (x_gV km_X7_58 ki_X7_take kz_X7_X7_take kn_X7 kk_X7_take) rfl rfl rfl (by decide +kernel) ⟨Nat.le_of_ble_eq_true rfl, Nat.le_of_ble_eq_true rfl⟩) (pre7V hP hK hap [.int x1, .int x4]) rfl rfl hl.1 rfl (lv_room (Nat.le_of_ble_eq_true rfl)) dX7_shiftDown_62 ⟨Nat.zero_le _, Nat.zero_le _⟩) hS (fun _ _ h => h) (fun _ h => h) (fun  u t H locs ht hvm hw hP hz1 hk1 hS => ?_)
    obtain ⟨pi_62, le_62⟩ := u
    rw [ht] at hP; clear hz1 hk1 ht hvm
    try dsimp only at hw
    try dsimp only at hP
    exact W.vret hx hb hr (fun t ht hW => ⟨⟨(pi_62, le_62, wo), rfl, hw, by show va_P D vwCl _ t.heap; rw [ht]; exact hP⟩, hS.F ht⟩) hS.2.2 dX7_shiftDown_65 hlocks
-- ===== ExactFilterModel.oneDigit
abbrev rX7_oneDigit : Room := { frames := 0, cells := 0, slots := 0, locals := 0 }
def wj_X7_oneDigit_135  (post : Int32 → (Nat → Int32) → Prop) (Rc : (Nat → Int32) → Int32 → Int32 → Int32 → Int64 → Int64 → Int64 → Int64 → Int64 → Prop) (K151 : (Nat → Int32) → Int32 → Int32 → Int32 → Int64 → Prop) (pi : Nat → Int32) (x1 : Int32) (x2 : Int32) (x3 : Int32) (x6 : Int64) (x8 : Int64) (x10 : Int64) (x12 : Int64) (x14 : Int64) : Prop := ∀ (x12_139 : Int64), x12_139 = (x12 - 1) → ∀ (x14_146 : Int64), x14_146 = (x14 + x6) → Rc pi x1 x2 x3 x6 x8 x10 x12_139 x14_146
def wl_X7_oneDigit_100  (post : Int32 → (Nat → Int32) → Prop) (K151 : (Nat → Int32) → Int32 → Int32 → Int32 → Int64 → Prop) : Nat → (Nat → Int32) → Int32 → Int32 → Int32 → Int64 → Int64 → Int64 → Int64 → Int64 → Prop
  | 0, _, _, _, _, _, _, _, _, _ => False
  | n + 1, pi, x1, x2, x3, x6, x8, x10, x12, x14 => (65536 ≤ x14 → K151 pi x1 x2 x3 x12) ∧ (¬ 65536 ≤ x14 → (65535 < x12 → wj_X7_oneDigit_135  post (wl_X7_oneDigit_100  post K151 n) K151 pi x1 x2 x3 x6 x8 x10 x12 x14) ∧ (¬ 65535 < x12 → ((x12 * x8) ≤ ((x14 <<< ((16 : Int32).toInt64 &&& 63)) + x10) → K151 pi x1 x2 x3 x12) ∧ (¬ (x12 * x8) ≤ ((x14 <<< ((16 : Int32).toInt64 &&& 63)) + x10) → wj_X7_oneDigit_135  post (wl_X7_oneDigit_100  post K151 n) K151 pi x1 x2 x3 x6 x8 x10 x12 x14)))
def wl_X7_oneDigit_157  (post : Int32 → (Nat → Int32) → Prop) (K222 : (Nat → Int32) → Int32 → Int32 → Int32 → Int64 → Int64 → Prop) : Nat → (Nat → Int32) → Int32 → Int32 → Int32 → Int64 → Int64 → Int32 → Prop
  | 0, _, _, _, _, _, _, _ => False
  | n + 1, pi, x1, x2, x3, x12, x16, x18 => (x2 ≤ x18 → K222 pi x1 x2 x3 x12 x16) ∧ (¬ x2 ≤ x18 → vp_in (x1 + x18) 96000 ∧ vp_in (x3 + x18) 96000 ∧ ∀ (x19_190 : Int64), x19_190 = (((((pi ((x1 + x18) : Int32).toNatClampNeg) : Int32).toInt64) - x16) - (x12 * (((pi ((x3 + x18) : Int32).toNatClampNeg) : Int32).toInt64))) → vp_in (x1 + x18) 96000 ∧ ∀ (x16_214 : Int64), x16_214 = (-(x19_190 >>> ((16 : Int32).toInt64 &&& 63))) → ∀ (x18_216 : Int32), x18_216 = x18 + 1 → wl_X7_oneDigit_157  post K222 n (upd pi ((x1 + x18) : Int32).toNatClampNeg (((x19_190 &&& 65535) : Int64).toInt32)) x1 x2 x3 x12 x16_214 x18_216)
def wl_X7_oneDigit_268  (post : Int32 → (Nat → Int32) → Prop) (K325 : (Nat → Int32) → Int32 → Int32 → Int64 → Int32 → Prop) : Nat → (Nat → Int32) → Int32 → Int32 → Int32 → Int64 → Int32 → Int32 → Prop
  | 0, _, _, _, _, _, _, _ => False
  | n + 1, pi, x1, x2, x3, x12, x20, x21 => (x2 ≤ x21 → K325 pi x1 x2 x12 x20) ∧ (¬ x2 ≤ x21 → vp_in (x1 + x21) 96000 ∧ vp_in (x3 + x21) 96000 ∧ ∀ (x22_296 : Int32), x22_296 = (((pi ((x1 + x21) : Int32).toNatClampNeg) + (pi ((x3 + x21) : Int32).toNatClampNeg)) + x20) → vp_in (x1 + x21) 96000 ∧ ∀ (x20_317 : Int32), x20_317 = (x22_296 >>> ((16 : Int32) &&& 31)) → ∀ (x21_319 : Int32), x21_319 = x21 + 1 → wl_X7_oneDigit_268  post K325 n (upd pi ((x1 + x21) : Int32).toNatClampNeg (x22_296 &&& 65535)) x1 x2 x3 x12 x20_317 x21_319)
def wj_X7_oneDigit_151  (post : Int32 → (Nat → Int32) → Prop)  (pi : Nat → Int32) (x1 : Int32) (x2 : Int32) (x3 : Int32) (x12 : Int64) : Prop := ∃ n157 : Nat, wl_X7_oneDigit_157  post (fun (pi : Nat → Int32) (x1 : Int32) (x2 : Int32) (x3 : Int32) (x12 : Int64) (x16 : Int64) => vp_in (x1 + x2) 96000 ∧ ∀ (x18_234 : Int64), x18_234 = ((((pi ((x1 + x2) : Int32).toNatClampNeg) : Int32).toInt64) - x16) → vp_in (x1 + x2) 96000 ∧ (x18_234 < 0 → ∃ n268 : Nat, wl_X7_oneDigit_268  post (fun (pi : Nat → Int32) (x1 : Int32) (x2 : Int32) (x12 : Int64) (x20 : Int32) => vp_in (x1 + x2) 96000 ∧ vp_in (x1 + x2) 96000 ∧ post (((x12 : Int64).toInt32) - 1) (upd pi ((x1 + x2) : Int32).toNatClampNeg (((pi ((x1 + x2) : Int32).toNatClampNeg) + x20) &&& 65535))) n268 (upd pi ((x1 + x2) : Int32).toNatClampNeg (((x18_234 &&& 65535) : Int64).toInt32)) x1 x2 x3 x12 0 0) ∧ (¬ x18_234 < 0 → post ((x12 : Int64).toInt32) (upd pi ((x1 + x2) : Int32).toNatClampNeg (((x18_234 &&& 65535) : Int64).toInt32)))) n157 pi x1 x2 x3 x12 0 0
def wj_X7_oneDigit_84  (post : Int32 → (Nat → Int32) → Prop)  (pi : Nat → Int32) (x1 : Int32) (x2 : Int32) (x3 : Int32) (x4 : Int64) (x6 : Int64) (x8 : Int64) (s0 : Int64) : Prop := ¬ x6 = 0 ∧ ∀ (x12_91 : Int64), x12_91 = (x4 / x6) → ¬ x6 = 0 ∧ ∀ (x14_98 : Int64), x14_98 = (x4 - x4 / x6 * x6) → ∃ n100 : Nat, wl_X7_oneDigit_100  post (fun (pi : Nat → Int32) (x1 : Int32) (x2 : Int32) (x3 : Int32) (x12 : Int64) => wj_X7_oneDigit_151  post  pi x1 x2 x3 x12) n100 pi x1 x2 x3 x6 x8 s0 x12_91 x14_98
def wj_X7_oneDigit_62  (post : Int32 → (Nat → Int32) → Prop)  (pi : Nat → Int32) (x1 : Int32) (x2 : Int32) (x3 : Int32) (x4 : Int64) (x6 : Int64) (s0 : Int64) : Prop := (x2 ≤ 1 → wj_X7_oneDigit_84  post  pi x1 x2 x3 x4 x6 s0 0) ∧ (¬ x2 ≤ 1 → vp_in ((x1 + x2) - 2) 96000 ∧ wj_X7_oneDigit_84  post  pi x1 x2 x3 x4 x6 s0 (((pi (((x1 + x2) - 2) : Int32).toNatClampNeg) : Int32).toInt64))
def wp_X7_oneDigit (pi : Nat → Int32) (x1 : Int32) (x2 : Int32) (post : Int32 → (Nat → Int32) → Prop) : Prop := vp_in (x1 + x2) 96000 ∧ vp_in ((x1 + x2) - 1) 96000 ∧ ∀ (x4_27 : Int64), x4_27 = (((((pi ((x1 + x2) : Int32).toNatClampNeg) : Int32).toInt64) <<< ((16 : Int32).toInt64 &&& 63)) + (((pi (((x1 + x2) - 1) : Int32).toNatClampNeg) : Int32).toInt64)) → vp_in ((94500 + x2) - 1) 96000 ∧ ∀ (x6_40 : Int64), x6_40 = (((pi (((94500 + x2) - 1) : Int32).toNatClampNeg) : Int32).toInt64) → (x2 ≤ 1 → wj_X7_oneDigit_62  post  pi x1 x2 94500 x4_27 x6_40 0) ∧ (¬ x2 ≤ 1 → vp_in ((94500 + x2) - 2) 96000 ∧ wj_X7_oneDigit_62  post  pi x1 x2 94500 x4_27 x6_40 (((pi (((94500 + x2) - 2) : Int32).toNatClampNeg) : Int32).toInt64))
set_option maxHeartbeats 4000000 in
set_option maxRecDepth 100000 in
theorem mj_X7_oneDigit_135 (C : C7 p s m args meth c D cI q cX7_oneDigit 23 (some .int)) (th : Int32) (sz : Int32) (sd : Int32) (ss : Int32) (pr : Int32) (me : Int32) (ab : Nat → Int32) (be : Nat → Int32) (le : Nat → Int32) (sg : Nat → Int32) (wo : Nat → Int32) (post : Int32 → (Nat → Int32) → Prop) (Rc : (Nat → Int32) → Int32 → Int32 → Int32 → Int64 → Int64 → Int64 → Int64 → Int64 → Prop) (K151 : (Nat → Int32) → Int32 → Int32 → Int32 → Int64 → Prop)
    (hRc : (∀ (pi : Nat → Int32) (x1 : Int32) (x2 : Int32) (x3 : Int32) (x6 : Int64) (x8 : Int64) (x10 : Int64) (x12 : Int64) (x14 : Int64) (H : Heap) (locs : List Loc) (ls : Array Slot), Rc pi x1 x2 x3 x6 x8 x10 x12 x14 → va_P D vwCl (w7 cI q th sz sd ss pr me ab be pi le sg wo) H → va_S (A7 q) s.heap H locs → lv_has ls 23 [(0, .ref (q 0)), (1, .int x1), (2, .int x2), (3, .int x3), (6, .long x6), (8, .long x8), (10, .long x10), (12, .long x12), (14, .long x14)] → W p l e rX7_oneDigit s m args below meth c H locs 0 0 (MQ below (va_Qi (S := (Nat → Int32)) (fun r u => post r u) (fun u t => va_P D vwCl (w7 cI q th sz sd ss pr me ab be u le sg wo) t.heap) (A7 q)) args s 0 0 (A7 q)) (F0 m 100 ls [])))
    (hK151 : (∀ (pi : Nat → Int32) (x1 : Int32) (x2 : Int32) (x3 : Int32) (x12 : Int64) (H : Heap) (locs : List Loc) (ls : Array Slot), K151 pi x1 x2 x3 x12 → va_P D vwCl (w7 cI q th sz sd ss pr me ab be pi le sg wo) H → va_S (A7 q) s.heap H locs → lv_has ls 23 [(0, .ref (q 0)), (1, .int x1), (2, .int x2), (3, .int x3), (12, .long x12)] → W p l e rX7_oneDigit s m args below meth c H locs 0 0 (MQ below (va_Qi (S := (Nat → Int32)) (fun r u => post r u) (fun u t => va_P D vwCl (w7 cI q th sz sd ss pr me ab be u le sg wo) t.heap) (A7 q)) args s 0 0 (A7 q)) (F0 m 151 ls [])))
    (pi : Nat → Int32) (x1 : Int32) (x2 : Int32) (x3 : Int32) (x6 : Int64) (x8 : Int64) (x10 : Int64) (x12 : Int64) (x14 : Int64) (H : Heap) (locs : List Loc) (ls : Array Slot) (hw : wj_X7_oneDigit_135  post Rc K151 pi x1 x2 x3 x6 x8 x10 x12 x14) (hP : va_P D vwCl (w7 cI q th sz sd ss pr me ab be pi le sg wo) H) (hS : va_S (A7 q) s.heap H locs) (hl : lv_has ls 23 [(0, .ref (q 0)), (1, .int x1), (2, .int x2), (3, .int x3), (6, .long x6), (8, .long x8), (10, .long x10), (12, .long x12), (14, .long x14)]) : W p l e rX7_oneDigit s m args below meth c H locs 0 0 (MQ below (va_Qi (S := (Nat → Int32)) (fun r u => post r u) (fun u t => va_P D vwCl (w7 cI q th sz sd ss pr me ab be u le sg wo) t.heap) (A7 q)) args s 0 0 (A7 q)) (F0 m 135 ls []) := by
  obtain ⟨hx, hb, hr, hml, hown, hg, hlocks, hK, hap⟩ := id C
  unfold wj_X7_oneDigit_135 at hw
  refine lv_lload hx hb dX7_oneDigit_135 (lv_at hl 7 rfl) ?_
  refine lv_lconst (v := 1) hx hb dX7_oneDigit_137 (by decide) ?_
  refine lv_lsub hx hb dX7_oneDigit_138 ?_
  refine lv_topl (fun x12_139 ex12_139 => ?_)
  have hw := hw x12_139 ex12_139
  refine lv_lstore (lv' := [(12, .long x12_139), (0, .ref (q 0)), (1, .int x1), (2, .int x2), (3, .int x3), (6, .long x6), (8, .long x8), (10, .long x10), (14, .long x14)]) hx hb dX7_oneDigit_139 hl (by decide) rfl (fun ls hl => ?_)
  refine lv_lload hx hb dX7_oneDigit_141 (lv_at hl 8 rfl) ?_
  refine lv_lload hx hb dX7_oneDigit_143 (lv_at hl 5 rfl) ?_
  refine lv_ladd hx hb dX7_oneDigit_145 ?_
  refine lv_topl (fun x14_146 ex14_146 => ?_)
  have hw := hw x14_146 ex14_146
  refine lv_lstore (lv' := [(14, .long x14_146), (12, .long x12_139), (0, .ref (q 0)), (1, .int x1), (2, .int x2), (3, .int x3), (6, .long x6), (8, .long x8), (10, .long x10)]) hx hb dX7_oneDigit_146 hl (by decide) rfl (fun ls hl => ?_)
  refine lv_goto (tgt := 100) hx hb dX7_oneDigit_148 (by decide) ?_
  exact hRc _ _ _ _ _ _ _ _ _ _ _ _ hw hP hS (lv_sub hl [2, 3, 4, 5, 6, 7, 8, 1, 0] rfl)
set_option maxHeartbeats 4000000 in
set_option maxRecDepth 100000 in
theorem ml_X7_oneDigit_100 (C : C7 p s m args meth c D cI q cX7_oneDigit 23 (some .int)) (th : Int32) (sz : Int32) (sd : Int32) (ss : Int32) (pr : Int32) (me : Int32) (ab : Nat → Int32) (be : Nat → Int32) (le : Nat → Int32) (sg : Nat → Int32) (wo : Nat → Int32) (post : Int32 → (Nat → Int32) → Prop) (K151 : (Nat → Int32) → Int32 → Int32 → Int32 → Int64 → Prop)
    (hK151 : (∀ (pi : Nat → Int32) (x1 : Int32) (x2 : Int32) (x3 : Int32) (x12 : Int64) (H : Heap) (locs : List Loc) (ls : Array Slot), K151 pi x1 x2 x3 x12 → va_P D vwCl (w7 cI q th sz sd ss pr me ab be pi le sg wo) H → va_S (A7 q) s.heap H locs → lv_has ls 23 [(0, .ref (q 0)), (1, .int x1), (2, .int x2), (3, .int x3), (12, .long x12)] → W p l e rX7_oneDigit s m args below meth c H locs 0 0 (MQ below (va_Qi (S := (Nat → Int32)) (fun r u => post r u) (fun u t => va_P D vwCl (w7 cI q th sz sd ss pr me ab be u le sg wo) t.heap) (A7 q)) args s 0 0 (A7 q)) (F0 m 151 ls []))) :
    ∀ (n : Nat) (pi : Nat → Int32) (x1 : Int32) (x2 : Int32) (x3 : Int32) (x6 : Int64) (x8 : Int64) (x10 : Int64) (x12 : Int64) (x14 : Int64) (H : Heap) (locs : List Loc) (ls : Array Slot), wl_X7_oneDigit_100  post K151 n pi x1 x2 x3 x6 x8 x10 x12 x14 → va_P D vwCl (w7 cI q th sz sd ss pr me ab be pi le sg wo) H → va_S (A7 q) s.heap H locs → lv_has ls 23 [(0, .ref (q 0)), (1, .int x1), (2, .int x2), (3, .int x3), (6, .long x6), (8, .long x8), (10, .long x10), (12, .long x12), (14, .long x14)] → W p l e rX7_oneDigit s m args below meth c H locs 0 0 (MQ below (va_Qi (S := (Nat → Int32)) (fun r u => post r u) (fun u t => va_P D vwCl (w7 cI q th sz sd ss pr me ab be u le sg wo) t.heap) (A7 q)) args s 0 0 (A7 q)) (F0 m 100 ls []) := by
  obtain ⟨hx, hb, hr, hml, hown, hg, hlocks, hK, hap⟩ := id C
  intro n
  induction n with
  | zero => intro pi x1 x2 x3 x6 x8 x10 x12 x14 H locs ls hw; exact absurd hw id
  | succ n ih =>
    intro pi x1 x2 x3 x6 x8 x10 x12 x14 H locs ls hw hP hS hl
    refine lv_lload hx hb dX7_oneDigit_100 (lv_at hl 8 rfl) ?_
    refine lv_ldc2 (v := 65536) hx hb hown (hg _ kc_X7_91) dX7_oneDigit_102 ?_
    refine W.lcmp hx hb dX7_oneDigit_105 ?_
    refine lv_if_ge (tgt := 151) hx hb dX7_oneDigit_106 (by decide) (fun hc106 => ?_) (fun hc106 => ?_)
    · have hw := hw.1 ((lg_cmp_ge _ _).mp hc106)
      exact hK151 _ _ _ _ _ _ _ _ hw hP hS (lv_sub hl [0, 1, 2, 3, 7] rfl)
    · have hw := hw.2 (fun z => hc106 ((lg_cmp_ge _ _).mpr z))
      refine lv_lload hx hb dX7_oneDigit_109 (lv_at hl 7 rfl) ?_
      refine lv_ldc2 (v := 65535) hx hb hown (hg _ kc_X7_66) dX7_oneDigit_111 ?_
      refine W.lcmp hx hb dX7_oneDigit_114 ?_
      refine lv_if_gt (tgt := 135) hx hb dX7_oneDigit_115 (by decide) (fun hc115 => ?_) (fun hc115 => ?_)
      · have hw := hw.1 ((lg_cmp_gt _ _).mp hc115)
        exact mj_X7_oneDigit_135 C th sz sd ss pr me ab be le sg wo post _ _ (ih) hK151 _ _ _ _ _ _ _ _ _ _ _ _ hw hP hS (lv_sub hl [0, 1, 2, 3, 4, 5, 6, 7, 8] rfl)
      · have hw := hw.2 (fun z => hc115 ((lg_cmp_gt _ _).mpr z))
        refine lv_lload hx hb dX7_oneDigit_118 (lv_at hl 7 rfl) ?_
        refine lv_lload hx hb dX7_oneDigit_120 (lv_at hl 5 rfl) ?_
        refine lv_lmul hx hb dX7_oneDigit_122 ?_
        refine lv_lload hx hb dX7_oneDigit_123 (lv_at hl 8 rfl) ?_
        refine lv_bipush (v := 16) hx hb dX7_oneDigit_125 (by decide) ?_
        refine lv_lshl (v := (x14 <<< ((16 : Int32).toInt64 &&& 63))) hx hb dX7_oneDigit_127 rfl ?_
        refine lv_lload hx hb dX7_oneDigit_128 (lv_at hl 6 rfl) ?_
        refine lv_ladd hx hb dX7_oneDigit_130 ?_
        refine W.lcmp hx hb dX7_oneDigit_131 ?_
        refine lv_if_le (tgt := 151) hx hb dX7_oneDigit_132 (by decide) (fun hc132 => ?_) (fun hc132 => ?_)
        · have hw := hw.1 ((lg_cmp_le _ _).mp hc132)
          exact hK151 _ _ _ _ _ _ _ _ hw hP hS (lv_sub hl [0, 1, 2, 3, 7] rfl)
        · have hw := hw.2 (fun z => hc132 ((lg_cmp_le _ _).mpr z))
          exact mj_X7_oneDigit_135 C th sz sd ss pr me ab be le sg wo post _ _ (ih) hK151 _ _ _ _ _ _ _ _ _ _ _ _ hw hP hS (lv_sub hl [0, 1, 2, 3, 4, 5, 6, 7, 8] rfl)
set_option maxHeartbeats 4000000 in
set_option maxRecDepth 100000 in
theorem ml_X7_oneDigit_157 (C : C7 p s m args meth c D cI q cX7_oneDigit 23 (some .int)) (th : Int32) (sz : Int32) (sd : Int32) (ss : Int32) (pr : Int32) (me : Int32) (ab : Nat → Int32) (be : Nat → Int32) (le : Nat → Int32) (sg : Nat → Int32) (wo : Nat → Int32) (post : Int32 → (Nat → Int32) → Prop) (K222 : (Nat → Int32) → Int32 → Int32 → Int32 → Int64 → Int64 → Prop)
    (hK222 : (∀ (pi : Nat → Int32) (x1 : Int32) (x2 : Int32) (x3 : Int32) (x12 : Int64) (x16 : Int64) (H : Heap) (locs : List Loc) (ls : Array Slot), K222 pi x1 x2 x3 x12 x16 → va_P D vwCl (w7 cI q th sz sd ss pr me ab be pi le sg wo) H → va_S (A7 q) s.heap H locs → lv_has ls 23 [(0, .ref (q 0)), (1, .int x1), (2, .int x2), (3, .int x3), (12, .long x12), (16, .long x16)] → W p l e rX7_oneDigit s m args below meth c H locs 0 0 (MQ below (va_Qi (S := (Nat → Int32)) (fun r u => post r u) (fun u t => va_P D vwCl (w7 cI q th sz sd ss pr me ab be u le sg wo) t.heap) (A7 q)) args s 0 0 (A7 q)) (F0 m 222 ls []))) :
    ∀ (n : Nat) (pi : Nat → Int32) (x1 : Int32) (x2 : Int32) (x3 : Int32) (x12 : Int64) (x16 : Int64) (x18 : Int32) (H : Heap) (locs : List Loc) (ls : Array Slot), wl_X7_oneDigit_157  post K222 n pi x1 x2 x3 x12 x16 x18 → va_P D vwCl (w7 cI q th sz sd ss pr me ab be pi le sg wo) H → va_S (A7 q) s.heap H locs → lv_has ls 23 [(0, .ref (q 0)), (1, .int x1), (2, .int x2), (3, .int x3), (12, .long x12), (16, .long x16), (18, .int x18)] → W p l e rX7_oneDigit s m args below meth c H locs 0 0 (MQ below (va_Qi (S := (Nat → Int32)) (fun r u => post r u) (fun u t => va_P D vwCl (w7 cI q th sz sd ss pr me ab be u le sg wo) t.heap) (A7 q)) args s 0 0 (A7 q)) (F0 m 157 ls []) := by
  obtain ⟨hx, hb, hr, hml, hown, hg, hlocks, hK, hap⟩ := id C
  intro n
  induction n with
  | zero => intro pi x1 x2 x3 x12 x16 x18 H locs ls hw; exact absurd hw id
  | succ n ih =>
    intro pi x1 x2 x3 x12 x16 x18 H locs ls hw hP hS hl
    refine lv_iload hx hb dX7_oneDigit_157 (lv_at hl 6 rfl) ?_
    refine lv_iload_n hx hb dX7_oneDigit_159 rfl (lv_at hl 2 rfl) ?_
    refine lv_icmp_ge (tgt := 222) hx hb dX7_oneDigit_160 (by decide) (fun hc160 => ?_) (fun hc160 => ?_)
    · have hw := hw.1 hc160
      exact hK222 _ _ _ _ _ _ _ _ _ hw hP hS (lv_sub hl [0, 1, 2, 3, 4, 5] rfl)
    · have hw := hw.2 hc160
      refine lv_aload_n hx hb dX7_oneDigit_163 rfl (lv_at hl 0 rfl) ?_
      refine va_get (D := D) (ci := 7) (v := .ref (q 3)) (C := RX7) (T := TX7) (N := 12) hx hb hg ku_X7 hown hK hP 0 rfl rfl 8 (by decide) (hg _ kf_X7_37) (fun _ h9 => h9) rfl dX7_oneDigit_164 ?_
      refine lv_iload_n hx hb dX7_oneDigit_167 rfl (lv_at hl 1 rfl) ?_
      refine lv_iload hx hb dX7_oneDigit_168 (lv_at hl 6 rfl) ?_
      refine lv_iadd hx hb dX7_oneDigit_170 ?_
      obtain ⟨hi171, hw⟩ := hw
      refine va_iald (D := D) hx hb hK hP 3 0 rfl rfl hi171 dX7_oneDigit_171 ?_
      refine lv_i2l (v := ((pi ((x1 + x18) : Int32).toNatClampNeg) : Int32).toInt64) hx hb dX7_oneDigit_172 rfl ?_
      refine lv_lload hx hb dX7_oneDigit_173 (lv_at hl 5 rfl) ?_
      refine lv_lsub hx hb dX7_oneDigit_175 ?_
      refine lv_lload hx hb dX7_oneDigit_176 (lv_at hl 4 rfl) ?_
      refine lv_aload_n hx hb dX7_oneDigit_178 rfl (lv_at hl 0 rfl) ?_
      refine va_get (D := D) (ci := 7) (v := .ref (q 3)) (C := RX7) (T := TX7) (N := 12) hx hb hg ku_X7 hown hK hP 0 rfl rfl 8 (by decide) (hg _ kf_X7_37) (fun _ h9 => h9) rfl dX7_oneDigit_179 ?_
      refine lv_iload_n hx hb dX7_oneDigit_182 rfl (lv_at hl 3 rfl) ?_
      refine lv_iload hx hb dX7_oneDigit_183 (lv_at hl 6 rfl) ?_
      refine lv_iadd hx hb dX7_oneDigit_185 ?_
      obtain ⟨hi186, hw⟩ := hw
      refine va_iald (D := D) hx hb hK hP 3 0 rfl rfl hi186 dX7_oneDigit_186 ?_
      refine lv_i2l (v := ((pi ((x3 + x18) : Int32).toNatClampNeg) : Int32).toInt64) hx hb dX7_oneDigit_187 rfl ?_
      refine lv_lmul hx hb dX7_oneDigit_188 ?_
      refine lv_lsub hx hb dX7_oneDigit_189 ?_
      refine lv_topl (fun x19_190 ex19_190 => ?_)
      have hw := hw x19_190 ex19_190
      refine lv_lstore (lv' := [(19, .long x19_190), (0, .ref (q 0)), (1, .int x1), (2, .int x2), (3, .int x3), (12, .long x12), (16, .long x16), (18, .int x18)]) hx hb dX7_oneDigit_190 hl (by decide) rfl (fun ls hl => ?_)
      refine lv_aload_n hx hb dX7_oneDigit_192 rfl (lv_at hl 1 rfl) ?_
      refine va_get (D := D) (ci := 7) (v := .ref (q 3)) (C := RX7) (T := TX7) (N := 12) hx hb hg ku_X7 hown hK hP 0 rfl rfl 8 (by decide) (hg _ kf_X7_37) (fun _ h9 => h9) rfl dX7_oneDigit_193 ?_
      refine lv_iload_n hx hb dX7_oneDigit_196 rfl (lv_at hl 2 rfl) ?_
      refine lv_iload hx hb dX7_oneDigit_197 (lv_at hl 7 rfl) ?_
      refine lv_iadd hx hb dX7_oneDigit_199 ?_
      refine lv_lload hx hb dX7_oneDigit_200 (lv_at hl 0 rfl) ?_
      refine lv_ldc2 (v := 65535) hx hb hown (hg _ kc_X7_66) dX7_oneDigit_202 ?_
      refine lv_land hx hb dX7_oneDigit_205 ?_
      refine lv_l2i (v := ((x19_190 &&& 65535) : Int64).toInt32) hx hb dX7_oneDigit_206 rfl ?_
      obtain ⟨hi207, hw⟩ := hw
      refine va_iast (D := D) hx hb hK hP (D7 hap) hS 3 0 rfl rfl hi207 dX7_oneDigit_207 (fun H locs hP _ hS => ?_)
      have hP : va_P D vwCl (w7 cI q th sz sd ss pr me ab be (upd pi ((x1 + x18) : Int32).toNatClampNeg (((x19_190 &&& 65535) : Int64).toInt32)) le sg wo) H := hP
      refine lv_lload hx hb dX7_oneDigit_208 (lv_at hl 0 rfl) ?_
      refine lv_bipush (v := 16) hx hb dX7_oneDigit_210 (by decide) ?_
      refine lv_lshr (v := (x19_190 >>> ((16 : Int32).toInt64 &&& 63))) hx hb dX7_oneDigit_212 rfl ?_
      refine lv_lneg hx hb dX7_oneDigit_213 ?_
      refine lv_topl (fun x16_214 ex16_214 => ?_)
      have hw := hw x16_214 ex16_214
      refine lv_lstore (lv' := [(16, .long x16_214), (19, .long x19_190), (0, .ref (q 0)), (1, .int x1), (2, .int x2), (3, .int x3), (12, .long x12), (18, .int x18)]) hx hb dX7_oneDigit_214 hl (by decide) rfl (fun ls hl => ?_)
      obtain ⟨x18_216, ex18_216⟩ : ∃ y : Int32, y = x18 + 1 := ⟨_, rfl⟩
      have hw := hw x18_216 ex18_216
      refine lv_iinc (v := x18_216) (lv' := [(18, .int x18_216), (16, .long x16_214), (19, .long x19_190), (0, .ref (q 0)), (1, .int x1), (2, .int x2), (3, .int x3), (12, .long x12)]) hx hb dX7_oneDigit_216 hl (k := 7) rfl (by rw [ex18_216]; rfl) (by decide) rfl (fun ls hl => ?_)
      refine lv_goto (tgt := 157) hx hb dX7_oneDigit_219 (by decide) ?_
      exact ih _ _ _ _ _ _ _ _ _ _ hw hP hS (lv_sub hl [3, 4, 5, 6, 7, 1, 0] rfl)
set_option maxHeartbeats 4000000 in
set_option maxRecDepth 100000 in
theorem ml_X7_oneDigit_268 (C : C7 p s m args meth c D cI q cX7_oneDigit 23 (some .int)) (th : Int32) (sz : Int32) (sd : Int32) (ss : Int32) (pr : Int32) (me : Int32) (ab : Nat → Int32) (be : Nat → Int32) (le : Nat → Int32) (sg : Nat → Int32) (wo : Nat → Int32) (post : Int32 → (Nat → Int32) → Prop) (K325 : (Nat → Int32) → Int32 → Int32 → Int64 → Int32 → Prop)
    (hK325 : (∀ (pi : Nat → Int32) (x1 : Int32) (x2 : Int32) (x12 : Int64) (x20 : Int32) (H : Heap) (locs : List Loc) (ls : Array Slot), K325 pi x1 x2 x12 x20 → va_P D vwCl (w7 cI q th sz sd ss pr me ab be pi le sg wo) H → va_S (A7 q) s.heap H locs → lv_has ls 23 [(0, .ref (q 0)), (1, .int x1), (2, .int x2), (12, .long x12), (20, .int x20)] → W p l e rX7_oneDigit s m args below meth c H locs 0 0 (MQ below (va_Qi (S := (Nat → Int32)) (fun r u => post r u) (fun u t => va_P D vwCl (w7 cI q th sz sd ss pr me ab be u le sg wo) t.heap) (A7 q)) args s 0 0 (A7 q)) (F0 m 325 ls []))) :
    ∀ (n : Nat) (pi : Nat → Int32) (x1 : Int32) (x2 : Int32) (x3 : Int32) (x12 : Int64) (x20 : Int32) (x21 : Int32) (H : Heap) (locs : List Loc) (ls : Array Slot), wl_X7_oneDigit_268  post K325 n pi x1 x2 x3 x12 x20 x21 → va_P D vwCl (w7 cI q th sz sd ss pr me ab be pi le sg wo) H → va_S (A7 q) s.heap H locs → lv_has ls 23 [(0, .ref (q 0)), (1, .int x1), (2, .int x2), (3, .int x3), (12, .long x12), (20, .int x20), (21, .int x21)] → W p l e rX7_oneDigit s m args below meth c H locs 0 0 (MQ below (va_Qi (S := (Nat → Int32)) (fun r u => post r u) (fun u t => va_P D vwCl (w7 cI q th sz sd ss pr me ab be u le sg wo) t.heap) (A7 q)) args s 0 0 (A7 q)) (F0 m 268 ls []) := by
  obtain ⟨hx, hb, hr, hml, hown, hg, hlocks, hK, hap⟩ := id C
  intro n
  induction n with
  | zero => intro pi x1 x2 x3 x12 x20 x21 H locs ls hw; exact absurd hw id
  | succ n ih =>
    intro pi x1 x2 x3 x12 x20 x21 H locs ls hw hP hS hl
    refine lv_iload hx hb dX7_oneDigit_268 (lv_at hl 6 rfl) ?_
    refine lv_iload_n hx hb dX7_oneDigit_270 rfl (lv_at hl 2 rfl) ?_
    refine lv_icmp_ge (tgt := 325) hx hb dX7_oneDigit_271 (by decide) (fun hc271 => ?_) (fun hc271 => ?_)
    · have hw := hw.1 hc271
      exact hK325 _ _ _ _ _ _ _ _ hw hP hS (lv_sub hl [0, 1, 2, 4, 5] rfl)
    · have hw := hw.2 hc271
      refine lv_aload_n hx hb dX7_oneDigit_274 rfl (lv_at hl 0 rfl) ?_
      refine va_get (D := D) (ci := 7) (v := .ref (q 3)) (C := RX7) (T := TX7) (N := 12) hx hb hg ku_X7 hown hK hP 0 rfl rfl 8 (by decide) (hg _ kf_X7_37) (fun _ h9 => h9) rfl dX7_oneDigit_275 ?_
      refine lv_iload_n hx hb dX7_oneDigit_278 rfl (lv_at hl 1 rfl) ?_
      refine lv_iload hx hb dX7_oneDigit_279 (lv_at hl 6 rfl) ?_
      refine lv_iadd hx hb dX7_oneDigit_281 ?_
      obtain ⟨hi282, hw⟩ := hw
      refine va_iald (D := D) hx hb hK hP 3 0 rfl rfl hi282 dX7_oneDigit_282 ?_
      refine lv_aload_n hx hb dX7_oneDigit_283 rfl (lv_at hl 0 rfl) ?_
      refine va_get (D := D) (ci := 7) (v := .ref (q 3)) (C := RX7) (T := TX7) (N := 12) hx hb hg ku_X7 hown hK hP 0 rfl rfl 8 (by decide) (hg _ kf_X7_37) (fun _ h9 => h9) rfl dX7_oneDigit_284 ?_
      refine lv_iload_n hx hb dX7_oneDigit_287 rfl (lv_at hl 3 rfl) ?_
      refine lv_iload hx hb dX7_oneDigit_288 (lv_at hl 6 rfl) ?_
      refine lv_iadd hx hb dX7_oneDigit_290 ?_
      obtain ⟨hi291, hw⟩ := hw
      refine va_iald (D := D) hx hb hK hP 3 0 rfl rfl hi291 dX7_oneDigit_291 ?_
      refine lv_iadd hx hb dX7_oneDigit_292 ?_
      refine lv_iload hx hb dX7_oneDigit_293 (lv_at hl 5 rfl) ?_
      refine lv_iadd hx hb dX7_oneDigit_295 ?_
      refine lv_topi (fun x22_296 ex22_296 => ?_)
      have hw := hw x22_296 ex22_296
      refine lv_istore (lv' := [(22, .int x22_296), (0, .ref (q 0)), (1, .int x1), (2, .int x2), (3, .int x3), (12, .long x12), (20, .int x20), (21, .int x21)]) hx hb dX7_oneDigit_296 hl (by decide) rfl (fun ls hl => ?_)
      refine lv_aload_n hx hb dX7_oneDigit_298 rfl (lv_at hl 1 rfl) ?_
      refine va_get (D := D) (ci := 7) (v := .ref (q 3)) (C := RX7) (T := TX7) (N := 12) hx hb hg ku_X7 hown hK hP 0 rfl rfl 8 (by decide) (hg _ kf_X7_37) (fun _ h9 => h9) rfl dX7_oneDigit_299 ?_
      refine lv_iload_n hx hb dX7_oneDigit_302 rfl (lv_at hl 2 rfl) ?_
      refine lv_iload hx hb dX7_oneDigit_303 (lv_at hl 7 rfl) ?_
      refine lv_iadd hx hb dX7_oneDigit_305 ?_
      refine lv_iload hx hb dX7_oneDigit_306 (lv_at hl 0 rfl) ?_
      refine lv_ldc (v := 65535) hx hb hown (hg _ kc_X7_57) dX7_oneDigit_308 ?_
      refine lv_iand hx hb dX7_oneDigit_310 ?_
      obtain ⟨hi311, hw⟩ := hw
      refine va_iast (D := D) hx hb hK hP (D7 hap) hS 3 0 rfl rfl hi311 dX7_oneDigit_311 (fun H locs hP _ hS => ?_)
      have hP : va_P D vwCl (w7 cI q th sz sd ss pr me ab be (upd pi ((x1 + x21) : Int32).toNatClampNeg (x22_296 &&& 65535)) le sg wo) H := hP
      refine lv_iload hx hb dX7_oneDigit_312 (lv_at hl 0 rfl) ?_
      refine lv_bipush (v := 16) hx hb dX7_oneDigit_314 (by decide) ?_
      refine lv_ishr hx hb dX7_oneDigit_316 ?_
      refine lv_topi (fun x20_317 ex20_317 => ?_)
      have hw := hw x20_317 ex20_317
      refine lv_istore (lv' := [(20, .int x20_317), (22, .int x22_296), (0, .ref (q 0)), (1, .int x1), (2, .int x2), (3, .int x3), (12, .long x12), (21, .int x21)]) hx hb dX7_oneDigit_317 hl (by decide) rfl (fun ls hl => ?_)
      obtain ⟨x21_319, ex21_319⟩ : ∃ y : Int32, y = x21 + 1 := ⟨_, rfl⟩
      have hw := hw x21_319 ex21_319
      refine lv_iinc (v := x21_319) (lv' := [(21, .int x21_319), (20, .int x20_317), (22, .int x22_296), (0, .ref (q 0)), (1, .int x1), (2, .int x2), (3, .int x3), (12, .long x12)]) hx hb dX7_oneDigit_319 hl (k := 7) rfl (by rw [ex21_319]; rfl) (by decide) rfl (fun ls hl => ?_)
      refine lv_goto (tgt := 268) hx hb dX7_oneDigit_322 (by decide) ?_
      exact ih _ _ _ _ _ _ _ _ _ _ hw hP hS (lv_sub hl [3, 4, 5, 6, 7, 1, 0] rfl)
set_option maxHeartbeats 4000000 in
set_option maxRecDepth 100000 in
theorem mj_X7_oneDigit_151 (C : C7 p s m args meth c D cI q cX7_oneDigit 23 (some .int)) (th : Int32) (sz : Int32) (sd : Int32) (ss : Int32) (pr : Int32) (me : Int32) (ab : Nat → Int32) (be : Nat → Int32) (le : Nat → Int32) (sg : Nat → Int32) (wo : Nat → Int32) (post : Int32 → (Nat → Int32) → Prop) 
    
    (pi : Nat → Int32) (x1 : Int32) (x2 : Int32) (x3 : Int32) (x12 : Int64) (H : Heap) (locs : List Loc) (ls : Array Slot) (hw : wj_X7_oneDigit_151  post  pi x1 x2 x3 x12) (hP : va_P D vwCl (w7 cI q th sz sd ss pr me ab be pi le sg wo) H) (hS : va_S (A7 q) s.heap H locs) (hl : lv_has ls 23 [(0, .ref (q 0)), (1, .int x1), (2, .int x2), (3, .int x3), (12, .long x12)]) : W p l e rX7_oneDigit s m args below meth c H locs 0 0 (MQ below (va_Qi (S := (Nat → Int32)) (fun r u => post r u) (fun u t => va_P D vwCl (w7 cI q th sz sd ss pr me ab be u le sg wo) t.heap) (A7 q)) args s 0 0 (A7 q)) (F0 m 151 ls []) := by
  obtain ⟨hx, hb, hr, hml, hown, hg, hlocks, hK, hap⟩ := id C
  unfold wj_X7_oneDigit_151 at hw
  refine lv_lconst (v := 0) hx hb dX7_oneDigit_151 (by decide) ?_
  refine lv_lstore (lv' := [(16, .long 0), (0, .ref (q 0)), (1, .int x1), (2, .int x2), (3, .int x3), (12, .long x12)]) hx hb dX7_oneDigit_152 hl (by decide) rfl (fun ls hl => ?_)
  refine lv_iconst (v := 0) hx hb dX7_oneDigit_154 (by decide) ?_
  refine lv_istore (lv' := [(18, .int 0), (16, .long 0), (0, .ref (q 0)), (1, .int x1), (2, .int x2), (3, .int x3), (12, .long x12)]) hx hb dX7_oneDigit_155 hl (by decide) rfl (fun ls hl => ?_)
  obtain ⟨n157, hw⟩ := hw
  refine ml_X7_oneDigit_157 C th sz sd ss pr me ab be le sg wo post _ ?_ n157 _ _ _ _ _ _ _ _ _ _ hw hP hS (lv_sub hl [2, 3, 4, 5, 6, 1, 0] rfl)
  · intro pi x1 x2 x3 x12 x16 H locs ls hw hP hS hl
    refine lv_aload_n hx hb dX7_oneDigit_222 rfl (lv_at hl 0 rfl) ?_
    refine va_get (D := D) (ci := 7) (v := .ref (q 3)) (C := RX7) (T := TX7) (N := 12) hx hb hg ku_X7 hown hK hP 0 rfl rfl 8 (by decide) (hg _ kf_X7_37) (fun _ h9 => h9) rfl dX7_oneDigit_223 ?_
    refine lv_iload_n hx hb dX7_oneDigit_226 rfl (lv_at hl 1 rfl) ?_
    refine lv_iload_n hx hb dX7_oneDigit_227 rfl (lv_at hl 2 rfl) ?_
    refine lv_iadd hx hb dX7_oneDigit_228 ?_
    obtain ⟨hi229, hw⟩ := hw
    refine va_iald (D := D) hx hb hK hP 3 0 rfl rfl hi229 dX7_oneDigit_229 ?_
    refine lv_i2l (v := ((pi ((x1 + x2) : Int32).toNatClampNeg) : Int32).toInt64) hx hb dX7_oneDigit_230 rfl ?_
    refine lv_lload hx hb dX7_oneDigit_231 (lv_at hl 5 rfl) ?_
    refine lv_lsub hx hb dX7_oneDigit_233 ?_
    refine lv_topl (fun x18_234 ex18_234 => ?_)
    have hw := hw x18_234 ex18_234
    refine lv_lstore (lv' := [(18, .long x18_234), (0, .ref (q 0)), (1, .int x1), (2, .int x2), (3, .int x3), (12, .long x12), (16, .long x16)]) hx hb dX7_oneDigit_234 hl (by decide) rfl (fun ls hl => ?_)
    refine lv_aload_n hx hb dX7_oneDigit_236 rfl (lv_at hl 1 rfl) ?_
    refine va_get (D := D) (ci := 7) (v := .ref (q 3)) (C := RX7) (T := TX7) (N := 12) hx hb hg ku_X7 hown hK hP 0 rfl rfl 8 (by decide) (hg _ kf_X7_37) (fun _ h9 => h9) rfl dX7_oneDigit_237 ?_
    refine lv_iload_n hx hb dX7_oneDigit_240 rfl (lv_at hl 2 rfl) ?_
    refine lv_iload_n hx hb dX7_oneDigit_241 rfl (lv_at hl 3 rfl) ?_
    refine lv_iadd hx hb dX7_oneDigit_242 ?_
    refine lv_lload hx hb dX7_oneDigit_243 (lv_at hl 0 rfl) ?_
    refine lv_ldc2 (v := 65535) hx hb hown (hg _ kc_X7_66) dX7_oneDigit_245 ?_
    refine lv_land hx hb dX7_oneDigit_248 ?_
    refine lv_l2i (v := ((x18_234 &&& 65535) : Int64).toInt32) hx hb dX7_oneDigit_249 rfl ?_
    obtain ⟨hi250, hw⟩ := hw
    refine va_iast (D := D) hx hb hK hP (D7 hap) hS 3 0 rfl rfl hi250 dX7_oneDigit_250 (fun H locs hP _ hS => ?_)
    have hP : va_P D vwCl (w7 cI q th sz sd ss pr me ab be (upd pi ((x1 + x2) : Int32).toNatClampNeg (((x18_234 &&& 65535) : Int64).toInt32)) le sg wo) H := hP
    refine lv_lload hx hb dX7_oneDigit_251 (lv_at hl 0 rfl) ?_
    refine lv_lconst (v := 0) hx hb dX7_oneDigit_253 (by decide) ?_
    refine W.lcmp hx hb dX7_oneDigit_254 ?_
    refine lv_if_lt (tgt := 262) hx hb dX7_oneDigit_255 (by decide) (fun hc255 => ?_) (fun hc255 => ?_)
    · have hw := hw.1 ((lg_cmp_lt _ _).mp hc255)
      refine lv_iconst (v := 0) hx hb dX7_oneDigit_262 (by decide) ?_
      refine lv_istore (lv' := [(20, .int 0), (18, .long x18_234), (0, .ref (q 0)), (1, .int x1), (2, .int x2), (3, .int x3), (12, .long x12), (16, .long x16)]) hx hb dX7_oneDigit_263 hl (by decide) rfl (fun ls hl => ?_)
      refine lv_iconst (v := 0) hx hb dX7_oneDigit_265 (by decide) ?_
      refine lv_istore (lv' := [(21, .int 0), (20, .int 0), (18, .long x18_234), (0, .ref (q 0)), (1, .int x1), (2, .int x2), (3, .int x3), (12, .long x12), (16, .long x16)]) hx hb dX7_oneDigit_266 hl (by decide) rfl (fun ls hl => ?_)
      obtain ⟨n268, hw⟩ := hw
      refine ml_X7_oneDigit_268 C th sz sd ss pr me ab be le sg wo post _ ?_ n268 _ _ _ _ _ _ _ _ _ _ hw hP hS (lv_sub hl [3, 4, 5, 6, 7, 1, 0] rfl)
      · intro pi x1 x2 x12 x20 H locs ls hw hP hS hl
        refine lv_aload_n hx hb dX7_oneDigit_325 rfl (lv_at hl 0 rfl) ?_
        refine va_get (D := D) (ci := 7) (v := .ref (q 3)) (C := RX7) (T := TX7) (N := 12) hx hb hg ku_X7 hown hK hP 0 rfl rfl 8 (by decide) (hg _ kf_X7_37) (fun _ h9 => h9) rfl dX7_oneDigit_326 ?_
        refine lv_iload_n hx hb dX7_oneDigit_329 rfl (lv_at hl 1 rfl) ?_
        refine lv_iload_n hx hb dX7_oneDigit_330 rfl (lv_at hl 2 rfl) ?_
        refine lv_iadd hx hb dX7_oneDigit_331 ?_
        refine lv_aload_n hx hb dX7_oneDigit_332 rfl (lv_at hl 0 rfl) ?_
        refine va_get (D := D) (ci := 7) (v := .ref (q 3)) (C := RX7) (T := TX7) (N := 12) hx hb hg ku_X7 hown hK hP 0 rfl rfl 8 (by decide) (hg _ kf_X7_37) (fun _ h9 => h9) rfl dX7_oneDigit_333 ?_
        refine lv_iload_n hx hb dX7_oneDigit_336 rfl (lv_at hl 1 rfl) ?_
        refine lv_iload_n hx hb dX7_oneDigit_337 rfl (lv_at hl 2 rfl) ?_
        refine lv_iadd hx hb dX7_oneDigit_338 ?_
        obtain ⟨hi339, hw⟩ := hw
        refine va_iald (D := D) hx hb hK hP 3 0 rfl rfl hi339 dX7_oneDigit_339 ?_
        refine lv_iload hx hb dX7_oneDigit_340 (lv_at hl 4 rfl) ?_
        refine lv_iadd hx hb dX7_oneDigit_342 ?_
        refine lv_ldc (v := 65535) hx hb hown (hg _ kc_X7_57) dX7_oneDigit_343 ?_
        refine lv_iand hx hb dX7_oneDigit_345 ?_
        obtain ⟨hi346, hw⟩ := hw
        refine va_iast (D := D) hx hb hK hP (D7 hap) hS 3 0 rfl rfl hi346 dX7_oneDigit_346 (fun H locs hP _ hS => ?_)
        have hP : va_P D vwCl (w7 cI q th sz sd ss pr me ab be (upd pi ((x1 + x2) : Int32).toNatClampNeg (((pi ((x1 + x2) : Int32).toNatClampNeg) + x20) &&& 65535)) le sg wo) H := hP
        refine lv_lload hx hb dX7_oneDigit_347 (lv_at hl 3 rfl) ?_
        refine lv_l2i (v := (x12 : Int64).toInt32) hx hb dX7_oneDigit_349 rfl ?_
        refine lv_iconst (v := 1) hx hb dX7_oneDigit_350 (by decide) ?_
        refine lv_isub hx hb dX7_oneDigit_351 ?_
        exact W.iret (v := (((x12 : Int64).toInt32) - 1)) hx hb hr (fun t ht hW => ⟨⟨(((x12 : Int64).toInt32) - 1), ((upd pi ((x1 + x2) : Int32).toNatClampNeg (((pi ((x1 + x2) : Int32).toNatClampNeg) + x20) &&& 65535))), rfl, hw, by show va_P D vwCl _ t.heap; rw [ht]; exact hP⟩, hS.F ht⟩) hS.2.2 dX7_oneDigit_352 hlocks
    · have hw := hw.2 (fun z => hc255 ((lg_cmp_lt _ _).mpr z))
      refine lv_lload hx hb dX7_oneDigit_258 (lv_at hl 5 rfl) ?_
      refine lv_l2i (v := (x12 : Int64).toInt32) hx hb dX7_oneDigit_260 rfl ?_
      exact W.iret (v := ((x12 : Int64).toInt32)) hx hb hr (fun t ht hW => ⟨⟨((x12 : Int64).toInt32), ((upd pi ((x1 + x2) : Int32).toNatClampNeg (((x18_234 &&& 65535) : Int64).toInt32))), rfl, hw, by show va_P D vwCl _ t.heap; rw [ht]; exact hP⟩, hS.F ht⟩) hS.2.2 dX7_oneDigit_261 hlocks
set_option maxHeartbeats 4000000 in
set_option maxRecDepth 100000 in
theorem mj_X7_oneDigit_84 (C : C7 p s m args meth c D cI q cX7_oneDigit 23 (some .int)) (th : Int32) (sz : Int32) (sd : Int32) (ss : Int32) (pr : Int32) (me : Int32) (ab : Nat → Int32) (be : Nat → Int32) (le : Nat → Int32) (sg : Nat → Int32) (wo : Nat → Int32) (post : Int32 → (Nat → Int32) → Prop) 
    
    (pi : Nat → Int32) (x1 : Int32) (x2 : Int32) (x3 : Int32) (x4 : Int64) (x6 : Int64) (x8 : Int64) (s0 : Int64) (H : Heap) (locs : List Loc) (ls : Array Slot) (hw : wj_X7_oneDigit_84  post  pi x1 x2 x3 x4 x6 x8 s0) (hP : va_P D vwCl (w7 cI q th sz sd ss pr me ab be pi le sg wo) H) (hS : va_S (A7 q) s.heap H locs) (hl : lv_has ls 23 [(0, .ref (q 0)), (1, .int x1), (2, .int x2), (3, .int x3), (4, .long x4), (6, .long x6), (8, .long x8)]) : W p l e rX7_oneDigit s m args below meth c H locs 0 0 (MQ below (va_Qi (S := (Nat → Int32)) (fun r u => post r u) (fun u t => va_P D vwCl (w7 cI q th sz sd ss pr me ab be u le sg wo) t.heap) (A7 q)) args s 0 0 (A7 q)) (F0 m 84 ls [.long s0]) := by
  obtain ⟨hx, hb, hr, hml, hown, hg, hlocks, hK, hap⟩ := id C
  unfold wj_X7_oneDigit_84 at hw
  refine lv_lstore (lv' := [(10, .long s0), (0, .ref (q 0)), (1, .int x1), (2, .int x2), (3, .int x3), (4, .long x4), (6, .long x6), (8, .long x8)]) hx hb dX7_oneDigit_84 hl (by decide) rfl (fun ls hl => ?_)
  refine lv_lload hx hb dX7_oneDigit_86 (lv_at hl 5 rfl) ?_
  refine lv_lload hx hb dX7_oneDigit_88 (lv_at hl 6 rfl) ?_
  obtain ⟨hne90, hw⟩ := hw
  refine lv_ldiv hx hb dX7_oneDigit_90 hne90 ?_
  refine lv_topl (fun x12_91 ex12_91 => ?_)
  have hw := hw x12_91 ex12_91
  refine lv_lstore (lv' := [(12, .long x12_91), (10, .long s0), (0, .ref (q 0)), (1, .int x1), (2, .int x2), (3, .int x3), (4, .long x4), (6, .long x6), (8, .long x8)]) hx hb dX7_oneDigit_91 hl (by decide) rfl (fun ls hl => ?_)
  refine lv_lload hx hb dX7_oneDigit_93 (lv_at hl 6 rfl) ?_
  refine lv_lload hx hb dX7_oneDigit_95 (lv_at hl 7 rfl) ?_
  obtain ⟨hne97, hw⟩ := hw
  refine lv_lrem hx hb dX7_oneDigit_97 hne97 ?_
  refine lv_topl (fun x14_98 ex14_98 => ?_)
  have hw := hw x14_98 ex14_98
  refine lv_lstore (lv' := [(14, .long x14_98), (12, .long x12_91), (10, .long s0), (0, .ref (q 0)), (1, .int x1), (2, .int x2), (3, .int x3), (4, .long x4), (6, .long x6), (8, .long x8)]) hx hb dX7_oneDigit_98 hl (by decide) rfl (fun ls hl => ?_)
  obtain ⟨n100, hw⟩ := hw
  refine ml_X7_oneDigit_100 C th sz sd ss pr me ab be le sg wo post _ ?_ n100 _ _ _ _ _ _ _ _ _ _ _ _ hw hP hS (lv_sub hl [3, 4, 5, 6, 8, 9, 2, 1, 0] rfl)
  · intro pi x1 x2 x3 x12 H locs ls hw hP hS hl
    exact mj_X7_oneDigit_151 C th sz sd ss pr me ab be le sg wo post  _ _ _ _ _ _ _ _ hw hP hS (lv_sub hl [0, 1, 2, 3, 4] rfl)
set_option maxHeartbeats 4000000 in
set_option maxRecDepth 100000 in
theorem mj_X7_oneDigit_62 (C : C7 p s m args meth c D cI q cX7_oneDigit 23 (some .int)) (th : Int32) (sz : Int32) (sd : Int32) (ss : Int32) (pr : Int32) (me : Int32) (ab : Nat → Int32) (be : Nat → Int32) (le : Nat → Int32) (sg : Nat → Int32) (wo : Nat → Int32) (post : Int32 → (Nat → Int32) → Prop) 
    
    (pi : Nat → Int32) (x1 : Int32) (x2 : Int32) (x3 : Int32) (x4 : Int64) (x6 : Int64) (s0 : Int64) (H : Heap) (locs : List Loc) (ls : Array Slot) (hw : wj_X7_oneDigit_62  post  pi x1 x2 x3 x4 x6 s0) (hP : va_P D vwCl (w7 cI q th sz sd ss pr me ab be pi le sg wo) H) (hS : va_S (A7 q) s.heap H locs) (hl : lv_has ls 23 [(0, .ref (q 0)), (1, .int x1), (2, .int x2), (3, .int x3), (4, .long x4), (6, .long x6)]) : W p l e rX7_oneDigit s m args below meth c H locs 0 0 (MQ below (va_Qi (S := (Nat → Int32)) (fun r u => post r u) (fun u t => va_P D vwCl (w7 cI q th sz sd ss pr me ab be u le sg wo) t.heap) (A7 q)) args s 0 0 (A7 q)) (F0 m 62 ls [.long s0]) := by
  obtain ⟨hx, hb, hr, hml, hown, hg, hlocks, hK, hap⟩ := id C
  unfold wj_X7_oneDigit_62 at hw
  refine lv_lstore (lv' := [(8, .long s0), (0, .ref (q 0)), (1, .int x1), (2, .int x2), (3, .int x3), (4, .long x4), (6, .long x6)]) hx hb dX7_oneDigit_62 hl (by decide) rfl (fun ls hl => ?_)
  refine lv_iload_n hx hb dX7_oneDigit_64 rfl (lv_at hl 3 rfl) ?_
  refine lv_iconst (v := 1) hx hb dX7_oneDigit_65 (by decide) ?_
  refine lv_icmp_le (tgt := 83) hx hb dX7_oneDigit_66 (by decide) (fun hc66 => ?_) (fun hc66 => ?_)
  · have hw := hw.1 hc66
    refine lv_lconst (v := 0) hx hb dX7_oneDigit_83 (by decide) ?_
    exact mj_X7_oneDigit_84 C th sz sd ss pr me ab be le sg wo post  _ _ _ _ _ _ _ _ _ _ _ hw hP hS (lv_sub hl [1, 2, 3, 4, 5, 6, 0] rfl)
  · have hw := hw.2 hc66
    refine lv_aload_n hx hb dX7_oneDigit_69 rfl (lv_at hl 1 rfl) ?_
    refine va_get (D := D) (ci := 7) (v := .ref (q 3)) (C := RX7) (T := TX7) (N := 12) hx hb hg ku_X7 hown hK hP 0 rfl rfl 8 (by decide) (hg _ kf_X7_37) (fun _ h9 => h9) rfl dX7_oneDigit_70 ?_
    refine lv_iload_n hx hb dX7_oneDigit_73 rfl (lv_at hl 2 rfl) ?_
    refine lv_iload_n hx hb dX7_oneDigit_74 rfl (lv_at hl 3 rfl) ?_
    refine lv_iadd hx hb dX7_oneDigit_75 ?_
    refine lv_iconst (v := 2) hx hb dX7_oneDigit_76 (by decide) ?_
    refine lv_isub hx hb dX7_oneDigit_77 ?_
    obtain ⟨hi78, hw⟩ := hw
    refine va_iald (D := D) hx hb hK hP 3 0 rfl rfl hi78 dX7_oneDigit_78 ?_
    refine lv_i2l (v := ((pi (((x1 + x2) - 2) : Int32).toNatClampNeg) : Int32).toInt64) hx hb dX7_oneDigit_79 rfl ?_
    refine lv_goto (tgt := 84) hx hb dX7_oneDigit_80 (by decide) ?_
    exact mj_X7_oneDigit_84 C th sz sd ss pr me ab be le sg wo post  _ _ _ _ _ _ _ _ _ _ _ hw hP hS (lv_sub hl [1, 2, 3, 4, 5, 6, 0] rfl)
set_option maxHeartbeats 4000000 in
set_option maxRecDepth 100000 in
theorem m_X7_oneDigit (l : Launch) (D : va_G) (cI : ClassId) (q : Nat → Nat) (th : Int32) (sz : Int32) (sd : Int32) (ss : Int32) (pr : Int32) (me : Int32) (ab : Nat → Int32) (be : Nat → Int32) (pi : Nat → Int32) (le : Nat → Int32) (sg : Nat → Int32) (wo : Nat → Int32) (x1 : Int32) (x2 : Int32) (post : Int32 → (Nat → Int32) → Prop) (hw : wp_X7_oneDigit pi x1 x2 post) : Met l yX7_oneDigit (wu yX7_oneDigit cX7_oneDigit 23 (some .int)) rX7_oneDigit (va_Pc [.ref (q 0), .int x1, .int x2] (fun U => va_P D vwCl (w7 cI q th sz sd ss pr me ab be pi le sg wo) U.heap ∧ K7 D cI q U)) (va_Qi (S := (Nat → Int32)) (fun r u => post r u) (fun u t => va_P D vwCl (w7 cI q th sz sd ss pr me ab be u le sg wo) t.heap) (A7 q)) 0 0 (A7 q) := by
  refine Met.ofW (cc := cX7_oneDigit) (maxL := 23) (ret := (some .int)) (by decide) rfl ?_
  intro p e s m args below meth c s₁ B hml hv
  obtain ⟨rfl, hP, hK, hap⟩ := hv
  have C : C7 p s m _ meth c D cI q cX7_oneDigit 23 (some .int) := ⟨B.exec, B.bytes, B.returns, hml, findClass_of_methodNamed B.named, x_hg (atoms_spec (ws := wu yX7_oneDigit cX7_oneDigit 23 (some .int)) B.pre), B.notSynchronized, hK, hap⟩
  obtain ⟨hx, hb, hr, hml, hown, hg, hlocks, hK, hap⟩ := id C
  have hS : va_S (A7 q) s.heap s.heap [] := va_S.rf
  have hl := lv_entry ([.ref (q 0), .int x1, .int x2]) (n := 23) (Nat.le_of_ble_eq_true rfl)
  rw [lg_entry_eq]
  generalize (lg_sl ([.ref (q 0), .int x1, .int x2]) ++ List.replicate (23 - (lg_sl ([.ref (q 0), .int x1, .int x2])).length) Slot.unset).toArray = ls at hl ⊢
  have hl : lv_has ls 23 [(0, .ref (q 0)), (1, .int x1), (2, .int x2)] := hl
  unfold wp_X7_oneDigit at hw
  refine lv_ldc (v := 94500) hx hb hown (hg _ kc_X7_90) dX7_oneDigit_0 ?_
  refine lv_istore_n (lv' := [(3, .int 94500), (0, .ref (q 0)), (1, .int x1), (2, .int x2)]) hx hb dX7_oneDigit_2 rfl hl (by decide) rfl (fun ls hl => ?_)
  refine lv_aload_n hx hb dX7_oneDigit_3 rfl (lv_at hl 1 rfl) ?_
  refine va_get (D := D) (ci := 7) (v := .ref (q 3)) (C := RX7) (T := TX7) (N := 12) hx hb hg ku_X7 hown hK hP 0 rfl rfl 8 (by decide) (hg _ kf_X7_37) (fun _ h9 => h9) rfl dX7_oneDigit_4 ?_
  refine lv_iload_n hx hb dX7_oneDigit_7 rfl (lv_at hl 2 rfl) ?_
  refine lv_iload_n hx hb dX7_oneDigit_8 rfl (lv_at hl 3 rfl) ?_
  refine lv_iadd hx hb dX7_oneDigit_9 ?_
  obtain ⟨hi10, hw⟩ := hw
  refine va_iald (D := D) hx hb hK hP 3 0 rfl rfl hi10 dX7_oneDigit_10 ?_
  refine lv_i2l (v := ((pi ((x1 + x2) : Int32).toNatClampNeg) : Int32).toInt64) hx hb dX7_oneDigit_11 rfl ?_
  refine lv_bipush (v := 16) hx hb dX7_oneDigit_12 (by decide) ?_
  refine lv_lshl (v := ((((pi ((x1 + x2) : Int32).toNatClampNeg) : Int32).toInt64) <<< ((16 : Int32).toInt64 &&& 63))) hx hb dX7_oneDigit_14 rfl ?_
  refine lv_aload_n hx hb dX7_oneDigit_15 rfl (lv_at hl 1 rfl) ?_
  refine va_get (D := D) (ci := 7) (v := .ref (q 3)) (C := RX7) (T := TX7) (N := 12) hx hb hg ku_X7 hown hK hP 0 rfl rfl 8 (by decide) (hg _ kf_X7_37) (fun _ h9 => h9) rfl dX7_oneDigit_16 ?_
  refine lv_iload_n hx hb dX7_oneDigit_19 rfl (lv_at hl 2 rfl) ?_
  refine lv_iload_n hx hb dX7_oneDigit_20 rfl (lv_at hl 3 rfl) ?_
  refine lv_iadd hx hb dX7_oneDigit_21 ?_
  refine lv_iconst (v := 1) hx hb dX7_oneDigit_22 (by decide) ?_
  refine lv_isub hx hb dX7_oneDigit_23 ?_
  obtain ⟨hi24, hw⟩ := hw
  refine va_iald (D := D) hx hb hK hP 3 0 rfl rfl hi24 dX7_oneDigit_24 ?_
  refine lv_i2l (v := ((pi (((x1 + x2) - 1) : Int32).toNatClampNeg) : Int32).toInt64) hx hb dX7_oneDigit_25 rfl ?_
  refine lv_ladd hx hb dX7_oneDigit_26 ?_
  refine lv_topl (fun x4_27 ex4_27 => ?_)
  have hw := hw x4_27 ex4_27
  refine lv_lstore (lv' := [(4, .long x4_27), (3, .int 94500), (0, .ref (q 0)), (1, .int x1), (2, .int x2)]) hx hb dX7_oneDigit_27 hl (by decide) rfl (fun ls hl => ?_)
  refine lv_aload_n hx hb dX7_oneDigit_29 rfl (lv_at hl 2 rfl) ?_
  refine va_get (D := D) (ci := 7) (v := .ref (q 3)) (C := RX7) (T := TX7) (N := 12) hx hb hg ku_X7 hown hK hP 0 rfl rfl 8 (by decide) (hg _ kf_X7_37) (fun _ h9 => h9) rfl dX7_oneDigit_30 ?_
  refine lv_iload_n hx hb dX7_oneDigit_33 rfl (lv_at hl 1 rfl) ?_
  refine lv_iload_n hx hb dX7_oneDigit_34 rfl (lv_at hl 4 rfl) ?_
  refine lv_iadd hx hb dX7_oneDigit_35 ?_
  refine lv_iconst (v := 1) hx hb dX7_oneDigit_36 (by decide) ?_
  refine lv_isub hx hb dX7_oneDigit_37 ?_
  obtain ⟨hi38, hw⟩ := hw
  refine va_iald (D := D) hx hb hK hP 3 0 rfl rfl hi38 dX7_oneDigit_38 ?_
  refine lv_i2l (v := ((pi (((94500 + x2) - 1) : Int32).toNatClampNeg) : Int32).toInt64) hx hb dX7_oneDigit_39 rfl ?_
  refine lv_topl (fun x6_40 ex6_40 => ?_)
  have hw := hw x6_40 ex6_40
  refine lv_lstore (lv' := [(6, .long x6_40), (4, .long x4_27), (3, .int 94500), (0, .ref (q 0)), (1, .int x1), (2, .int x2)]) hx hb dX7_oneDigit_40 hl (by decide) rfl (fun ls hl => ?_)
  refine lv_iload_n hx hb dX7_oneDigit_42 rfl (lv_at hl 5 rfl) ?_
  refine lv_iconst (v := 1) hx hb dX7_oneDigit_43 (by decide) ?_
  refine lv_icmp_le (tgt := 61) hx hb dX7_oneDigit_44 (by decide) (fun hc44 => ?_) (fun hc44 => ?_)
  · have hw := hw.1 hc44
    refine lv_lconst (v := 0) hx hb dX7_oneDigit_61 (by decide) ?_
    exact mj_X7_oneDigit_62 C th sz sd ss pr me ab be le sg wo post  _ _ _ _ _ _ _ _ _ _ hw hP hS (lv_sub hl [3, 4, 5, 2, 1, 0] rfl)
  · have hw := hw.2 hc44
    refine lv_aload_n hx hb dX7_oneDigit_47 rfl (lv_at hl 3 rfl) ?_
    refine va_get (D := D) (ci := 7) (v := .ref (q 3)) (C := RX7) (T := TX7) (N := 12) hx hb hg ku_X7 hown hK hP 0 rfl rfl 8 (by decide) (hg _ kf_X7_37) (fun _ h9 => h9) rfl dX7_oneDigit_48 ?_
    refine lv_iload_n hx hb dX7_oneDigit_51 rfl (lv_at hl 2 rfl) ?_
    refine lv_iload_n hx hb dX7_oneDigit_52 rfl (lv_at hl 5 rfl) ?_
    refine lv_iadd hx hb dX7_oneDigit_53 ?_
    refine lv_iconst (v := 2) hx hb dX7_oneDigit_54 (by decide) ?_
    refine lv_isub hx hb dX7_oneDigit_55 ?_
    obtain ⟨hi56, hw⟩ := hw
    refine va_iald (D := D) hx hb hK hP 3 0 rfl rfl hi56 dX7_oneDigit_56 ?_
    refine lv_i2l (v := ((pi (((94500 + x2) - 2) : Int32).toNatClampNeg) : Int32).toInt64) hx hb dX7_oneDigit_57 rfl ?_
    refine lv_goto (tgt := 62) hx hb dX7_oneDigit_58 (by decide) ?_
    exact mj_X7_oneDigit_62 C th sz sd ss pr me ab be le sg wo post  _ _ _ _ _ _ _ _ _ _ hw hP hS (lv_sub hl [3, 4, 5, 2, 1, 0] rfl)
-- ===== ExactFilterModel.divide
abbrev rX7_divide : Room := { frames := 2, cells := 0, slots := 0, locals := 53 }
def wl_X7_divide_102  (post : (Nat → Int32) → (Nat → Int32) → (Nat → Int32) → Prop) (K134 : (Nat → Int32) → (Nat → Int32) → (Nat → Int32) → Int32 → Int32 → Int32 → Prop) : Nat → (Nat → Int32) → (Nat → Int32) → (Nat → Int32) → Int32 → Int32 → Int32 → Int32 → Int32 → Prop
  | 0, _, _, _, _, _, _, _, _ => False
  | n + 1, pi, le, wo, x3, x4, x5, x6, x7 => (x7 < 0 → K134 pi le wo x3 x4 x5) ∧ (¬ x7 < 0 → wp_X7_oneDigit pi (x6 + x7) x4 (fun (r_124 : Int32) (pi_124 : Nat → Int32) => vp_in (90000 + x7) 96000 ∧ ∀ (x7_128 : Int32), x7_128 = x7 + (-1) → wl_X7_divide_102  post K134 n (upd pi_124 ((90000 + x7) : Int32).toNatClampNeg r_124) le wo x3 x4 x5 x6 x7_128))
def wl_X7_divide_145  (post : (Nat → Int32) → (Nat → Int32) → (Nat → Int32) → Prop) (K192 : (Nat → Int32) → (Nat → Int32) → (Nat → Int32) → Int32 → Int32 → Prop) : Nat → (Nat → Int32) → (Nat → Int32) → (Nat → Int32) → Int32 → Int32 → Prop
  | 0, _, _, _, _, _ => False
  | n + 1, pi, le, wo, x3, x4 => vp_in 60 64 ∧ ((le (60 : Int32).toNatClampNeg) ≤ 0 → K192 pi le wo x3 x4) ∧ (¬ (le (60 : Int32).toNatClampNeg) ≤ 0 → vp_in 60 64 ∧ wp_X7_digit pi le 60 ((le (60 : Int32).toNatClampNeg) - 1) (fun (r_167 : Int32) => (¬ r_167 = 0 → K192 pi le wo x3 x4) ∧ (r_167 = 0 → vp_in 60 64 ∧ vp_in 60 64 ∧ wl_X7_divide_145  post K192 n pi (upd le (60 : Int32).toNatClampNeg ((le (60 : Int32).toNatClampNeg) - 1)) wo x3 x4)))
def wl_X7_divide_201  (post : (Nat → Int32) → (Nat → Int32) → (Nat → Int32) → Prop) (K248 : (Nat → Int32) → (Nat → Int32) → (Nat → Int32) → Int32 → Prop) : Nat → (Nat → Int32) → (Nat → Int32) → (Nat → Int32) → Int32 → Prop
  | 0, _, _, _, _ => False
  | n + 1, pi, le, wo, x3 => vp_in 62 64 ∧ ((le (62 : Int32).toNatClampNeg) ≤ 0 → K248 pi le wo x3) ∧ (¬ (le (62 : Int32).toNatClampNeg) ≤ 0 → vp_in 62 64 ∧ wp_X7_digit pi le 62 ((le (62 : Int32).toNatClampNeg) - 1) (fun (r_223 : Int32) => (¬ r_223 = 0 → K248 pi le wo x3) ∧ (r_223 = 0 → vp_in 62 64 ∧ vp_in 62 64 ∧ wl_X7_divide_201  post K248 n pi (upd le (62 : Int32).toNatClampNeg ((le (62 : Int32).toNatClampNeg) - 1)) wo x3)))
def wj_X7_divide_248  (post : (Nat → Int32) → (Nat → Int32) → (Nat → Int32) → Prop)  (pi : Nat → Int32) (le : Nat → Int32) (wo : Nat → Int32) (x3 : Int32) : Prop := wp_X7_shiftDown pi le wo 61 62 x3 (fun (pi_254 : Nat → Int32) (le_254 : Nat → Int32) (wo_254 : Nat → Int32) => post pi_254 le_254 wo_254)
def wj_X7_divide_192  (post : (Nat → Int32) → (Nat → Int32) → (Nat → Int32) → Prop)  (pi : Nat → Int32) (le : Nat → Int32) (wo : Nat → Int32) (x3 : Int32) (x4 : Int32) : Prop := vp_in 62 64 ∧ ∃ n201 : Nat, wl_X7_divide_201  post (fun (pi : Nat → Int32) (le : Nat → Int32) (wo : Nat → Int32) (x3 : Int32) => wj_X7_divide_248  post  pi le wo x3) n201 pi (upd le (62 : Int32).toNatClampNeg x4) wo x3
def wp_X7_divide (pi : Nat → Int32) (le : Nat → Int32) (wo : Nat → Int32) (x1 : Int32) (x2 : Int32) (post : (Nat → Int32) → (Nat → Int32) → (Nat → Int32) → Prop) : Prop := vp_in 60 64 ∧ wp_X7_order pi (upd le (60 : Int32).toNatClampNeg 0) x1 x2 (fun (r_11 : Int32) => (0 ≤ r_11 → vp_in x2 64 ∧ wp_X7_bits pi (upd le (60 : Int32).toNatClampNeg 0) x2 (fun (r_36 : Int32) => ∀ (x3_40 : Int32), x3_40 = ((16 * ((upd le (60 : Int32).toNatClampNeg 0) (x2 : Int32).toNatClampNeg)) - r_36) → wp_X7_shiftUp pi (upd le (60 : Int32).toNatClampNeg 0) wo 62 x1 x3_40 (fun (pi_46 : Nat → Int32) (le_46 : Nat → Int32) (wo_46 : Nat → Int32) => wp_X7_shiftUp pi_46 le_46 wo_46 63 x2 x3_40 (fun (pi_54 : Nat → Int32) (le_54 : Nat → Int32) (wo_54 : Nat → Int32) => vp_in 63 64 ∧ ∀ (x4_64 : Int32), x4_64 = (le_54 (63 : Int32).toNatClampNeg) → vp_in 62 64 ∧ ∀ (x5_76 : Int32), x5_76 = ((le_54 (62 : Int32).toNatClampNeg) - x4_64) → vp_in 62 64 ∧ vp_in (93000 + (le_54 (62 : Int32).toNatClampNeg)) 96000 ∧ ∃ n102 : Nat, wl_X7_divide_102  post (fun (pi : Nat → Int32) (le : Nat → Int32) (wo : Nat → Int32) (x3 : Int32) (x4 : Int32) (x5 : Int32) => vp_in 60 64 ∧ ∃ n145 : Nat, wl_X7_divide_145  post (fun (pi : Nat → Int32) (le : Nat → Int32) (wo : Nat → Int32) (x3 : Int32) (x4 : Int32) => wj_X7_divide_192  post  pi le wo x3 x4) n145 pi (upd le (60 : Int32).toNatClampNeg (x5 + 1)) wo x3 x4) n102 (upd pi_54 ((93000 + (le_54 (62 : Int32).toNatClampNeg)) : Int32).toNatClampNeg 0) le_54 wo_54 x3_40 x4_64 x5_76 93000 x5_76)))) ∧ (¬ 0 ≤ r_11 → wp_X7_copy pi (upd le (60 : Int32).toNatClampNeg 0) 61 x1 (fun (pi_21 : Nat → Int32) (le_21 : Nat → Int32) => post pi_21 le_21 wo)))
set_option maxHeartbeats 4000000 in
set_option maxRecDepth 100000 in
theorem ml_X7_divide_102 (C : C7 p s m args meth c D cI q cX7_divide 8 none) (th : Int32) (sz : Int32) (sd : Int32) (ss : Int32) (pr : Int32) (me : Int32) (ab : Nat → Int32) (be : Nat → Int32) (sg : Nat → Int32) (post : (Nat → Int32) → (Nat → Int32) → (Nat → Int32) → Prop) (K134 : (Nat → Int32) → (Nat → Int32) → (Nat → Int32) → Int32 → Int32 → Int32 → Prop)
    (hK134 : (∀ (pi : Nat → Int32) (le : Nat → Int32) (wo : Nat → Int32) (x3 : Int32) (x4 : Int32) (x5 : Int32) (H : Heap) (locs : List Loc) (ls : Array Slot), K134 pi le wo x3 x4 x5 → va_P D vwCl (w7 cI q th sz sd ss pr me ab be pi le sg wo) H → va_S (A7 q) s.heap H locs → lv_has ls 8 [(0, .ref (q 0)), (3, .int x3), (4, .int x4), (5, .int x5)] → W p l e rX7_divide s m args below meth c H locs 0 0 (MQ below (va_Qv (S := (Nat → Int32) × (Nat → Int32) × (Nat → Int32)) (fun u => post u.1 u.2.1 u.2.2) (fun u t => va_P D vwCl (w7 cI q th sz sd ss pr me ab be u.1 u.2.1 sg u.2.2) t.heap) (A7 q)) args s 0 0 (A7 q)) (F0 m 134 ls []))) :
    ∀ (n : Nat) (pi : Nat → Int32) (le : Nat → Int32) (wo : Nat → Int32) (x3 : Int32) (x4 : Int32) (x5 : Int32) (x6 : Int32) (x7 : Int32) (H : Heap) (locs : List Loc) (ls : Array Slot), wl_X7_divide_102  post K134 n pi le wo x3 x4 x5 x6 x7 → va_P D vwCl (w7 cI q th sz sd ss pr me ab be pi le sg wo) H → va_S (A7 q) s.heap H locs → lv_has ls 8 [(0, .ref (q 0)), (3, .int x3), (4, .int x4), (5, .int x5), (6, .int x6), (7, .int x7)] → W p l e rX7_divide s m args below meth c H locs 0 0 (MQ below (va_Qv (S := (Nat → Int32) × (Nat → Int32) × (Nat → Int32)) (fun u => post u.1 u.2.1 u.2.2) (fun u t => va_P D vwCl (w7 cI q th sz sd ss pr me ab be u.1 u.2.1 sg u.2.2) t.heap) (A7 q)) args s 0 0 (A7 q)) (F0 m 102 ls []) := by
  obtain ⟨hx, hb, hr, hml, hown, hg, hlocks, hK, hap⟩ := id C
  intro n
  induction n with
  | zero => intro pi le wo x3 x4 x5 x6 x7 H locs ls hw; exact absurd hw id
  | succ n ih =>
    intro pi le wo x3 x4 x5 x6 x7 H locs ls hw hP hS hl
    refine lv_iload hx hb dX7_divide_102 (lv_at hl 5 rfl) ?_
    refine lv_if_lt (tgt := 134) hx hb dX7_divide_104 (by decide) (fun hc104 => ?_) (fun hc104 => ?_)
    · have hw := hw.1 hc104
      exact hK134 _ _ _ _ _ _ _ _ _ hw hP hS (lv_sub hl [0, 1, 2, 3] rfl)
    · have hw := hw.2 hc104
      refine lv_aload_n hx hb dX7_divide_107 rfl (lv_at hl 0 rfl) ?_
      refine va_get (D := D) (ci := 7) (v := .ref (q 3)) (C := RX7) (T := TX7) (N := 12) hx hb hg ku_X7 hown hK hP 0 rfl rfl 8 (by decide) (hg _ kf_X7_37) (fun _ h9 => h9) rfl dX7_divide_108 ?_
      refine lv_ldc (v := 90000) hx hb hown (hg _ kc_X7_83) dX7_divide_111 ?_
      refine lv_iload hx hb dX7_divide_113 (lv_at hl 5 rfl) ?_
      refine lv_iadd hx hb dX7_divide_115 ?_
      refine lv_aload_n hx hb dX7_divide_116 rfl (lv_at hl 0 rfl) ?_
      refine lv_iload hx hb dX7_divide_117 (lv_at hl 4 rfl) ?_
      refine lv_iload hx hb dX7_divide_119 (lv_at hl 5 rfl) ?_
      refine lv_iadd hx hb dX7_divide_121 ?_
      refine lv_iload hx hb dX7_divide_122 (lv_at hl 2 rfl) ?_
      refine va_calli (va_runV (As := [.int (x6 + x7), .int x4]) (rest := [.int (90000 + x7), .ref (q 3)]) ⟨hx, hb, hml, hown, hg⟩ (m_X7_oneDigit l D cI q th sz sd ss pr me ab be pi le sg wo (x6 + x7) x4 _ hw) (cwV 2 hg (x_gV km_X7_84 ki_X7_oneDigit kz_X7_X7_oneDigit kn_X7 kk_X7_oneDigit) rfl rfl rfl (by decide +kernel) ⟨Nat.le_of_ble_eq_true rfl, Nat.le_of_ble_eq_true rfl⟩) (pre7V hP hK hap [.int (x6 + x7), .int x4]) rfl rfl hl.1 rfl (lv_room (Nat.le_of_ble_eq_true rfl)) dX7_divide_124 ⟨Nat.zero_le _, Nat.zero_le _⟩) hS (fun _ _ h => h) (fun _ h => h) (fun r_124 u t H locs ht hvm hw hP hz1 hk1 hS => ?_)
      obtain ⟨pi_124, rfl⟩ : ∃ z, z = u := ⟨_, rfl⟩
      rw [ht] at hP; clear hz1 hk1 ht hvm
      try dsimp only at hw
      try dsimp only at hP
      obtain ⟨hi127, hw⟩ := hw
      refine va_iast (D := D) hx hb hK hP (D7 hap) hS 3 0 rfl rfl hi127 dX7_divide_127 (fun H locs hP _ hS => ?_)
      have hP : va_P D vwCl (w7 cI q th sz sd ss pr me ab be (upd pi_124 ((90000 + x7) : Int32).toNatClampNeg r_124) le sg wo) H := hP
      obtain ⟨x7_128, ex7_128⟩ : ∃ y : Int32, y = x7 + (-1) := ⟨_, rfl⟩
      have hw := hw x7_128 ex7_128
      refine lv_iinc (v := x7_128) (lv' := [(7, .int x7_128), (0, .ref (q 0)), (3, .int x3), (4, .int x4), (5, .int x5), (6, .int x6)]) hx hb dX7_divide_128 hl (k := 5) rfl (by rw [ex7_128]; rfl) (by decide) rfl (fun ls hl => ?_)
      refine lv_goto (tgt := 102) hx hb dX7_divide_131 (by decide) ?_
      exact ih _ _ _ _ _ _ _ _ _ _ _ hw hP hS (lv_sub hl [1, 2, 3, 4, 5, 0] rfl)
set_option maxHeartbeats 4000000 in
set_option maxRecDepth 100000 in
theorem ml_X7_divide_145 (C : C7 p s m args meth c D cI q cX7_divide 8 none) (th : Int32) (sz : Int32) (sd : Int32) (ss : Int32) (pr : Int32) (me : Int32) (ab : Nat → Int32) (be : Nat → Int32) (sg : Nat → Int32) (post : (Nat → Int32) → (Nat → Int32) → (Nat → Int32) → Prop) (K192 : (Nat → Int32) → (Nat → Int32) → (Nat → Int32) → Int32 → Int32 → Prop)
    (hK192 : (∀ (pi : Nat → Int32) (le : Nat → Int32) (wo : Nat → Int32) (x3 : Int32) (x4 : Int32) (H : Heap) (locs : List Loc) (ls : Array Slot), K192 pi le wo x3 x4 → va_P D vwCl (w7 cI q th sz sd ss pr me ab be pi le sg wo) H → va_S (A7 q) s.heap H locs → lv_has ls 8 [(0, .ref (q 0)), (3, .int x3), (4, .int x4)] → W p l e rX7_divide s m args below meth c H locs 0 0 (MQ below (va_Qv (S := (Nat → Int32) × (Nat → Int32) × (Nat → Int32)) (fun u => post u.1 u.2.1 u.2.2) (fun u t => va_P D vwCl (w7 cI q th sz sd ss pr me ab be u.1 u.2.1 sg u.2.2) t.heap) (A7 q)) args s 0 0 (A7 q)) (F0 m 192 ls []))) :
    ∀ (n : Nat) (pi : Nat → Int32) (le : Nat → Int32) (wo : Nat → Int32) (x3 : Int32) (x4 : Int32) (H : Heap) (locs : List Loc) (ls : Array Slot), wl_X7_divide_145  post K192 n pi le wo x3 x4 → va_P D vwCl (w7 cI q th sz sd ss pr me ab be pi le sg wo) H → va_S (A7 q) s.heap H locs → lv_has ls 8 [(0, .ref (q 0)), (3, .int x3), (4, .int x4)] → W p l e rX7_divide s m args below meth c H locs 0 0 (MQ below (va_Qv (S := (Nat → Int32) × (Nat → Int32) × (Nat → Int32)) (fun u => post u.1 u.2.1 u.2.2) (fun u t => va_P D vwCl (w7 cI q th sz sd ss pr me ab be u.1 u.2.1 sg u.2.2) t.heap) (A7 q)) args s 0 0 (A7 q)) (F0 m 145 ls []) := by
  obtain ⟨hx, hb, hr, hml, hown, hg, hlocks, hK, hap⟩ := id C
  intro n
  induction n with
  | zero => intro pi le wo x3 x4 H locs ls hw; exact absurd hw id
  | succ n ih =>
    intro pi le wo x3 x4 H locs ls hw hP hS hl
    refine lv_aload_n hx hb dX7_divide_145 rfl (lv_at hl 0 rfl) ?_
    refine va_get (D := D) (ci := 7) (v := .ref (q 4)) (C := RX7) (T := TX7) (N := 12) hx hb hg ku_X7 hown hK hP 0 rfl rfl 9 (by decide) (hg _ kf_X7_40) (fun _ h9 => h9) rfl dX7_divide_146 ?_
    refine lv_bipush (v := 60) hx hb dX7_divide_149 (by decide) ?_
    obtain ⟨hi151, hw⟩ := hw
    refine va_iald (D := D) hx hb hK hP 4 0 rfl rfl hi151 dX7_divide_151 ?_
    refine lv_if_le (tgt := 192) hx hb dX7_divide_152 (by decide) (fun hc152 => ?_) (fun hc152 => ?_)
    · have hw := hw.1 hc152
      exact hK192 _ _ _ _ _ _ _ _ hw hP hS (lv_sub hl [0, 1, 2] rfl)
    · have hw := hw.2 hc152
      refine lv_aload_n hx hb dX7_divide_155 rfl (lv_at hl 0 rfl) ?_
      refine lv_bipush (v := 60) hx hb dX7_divide_156 (by decide) ?_
      refine lv_aload_n hx hb dX7_divide_158 rfl (lv_at hl 0 rfl) ?_
      refine va_get (D := D) (ci := 7) (v := .ref (q 4)) (C := RX7) (T := TX7) (N := 12) hx hb hg ku_X7 hown hK hP 0 rfl rfl 9 (by decide) (hg _ kf_X7_40) (fun _ h9 => h9) rfl dX7_divide_159 ?_
      refine lv_bipush (v := 60) hx hb dX7_divide_162 (by decide) ?_
      obtain ⟨hi164, hw⟩ := hw
      refine va_iald (D := D) hx hb hK hP 4 0 rfl rfl hi164 dX7_divide_164 ?_
      refine lv_iconst (v := 1) hx hb dX7_divide_165 (by decide) ?_
      refine lv_isub hx hb dX7_divide_166 ?_
      refine va_calli (va_runV (As := [.int 60, .int ((le (60 : Int32).toNatClampNeg) - 1)]) (rest := []) ⟨hx, hb, hml, hown, hg⟩ (m_X7_digit l D cI q th sz sd ss pr me ab be pi le sg wo 60 ((le (60 : Int32).toNatClampNeg) - 1) _ hw) (cwV 2 hg (x_gV km_X7_62 ki_X7_digit kz_X7_X7_digit kn_X7 kk_X7_digit) rfl rfl rfl (by decide +kernel) ⟨Nat.le_of_ble_eq_true rfl, Nat.le_of_ble_eq_true rfl⟩) (pre7V hP hK hap [.int 60, .int ((le (60 : Int32).toNatClampNeg) - 1)]) rfl rfl hl.1 rfl (lv_room (Nat.le_of_ble_eq_true rfl)) dX7_divide_167 ⟨Nat.zero_le _, Nat.zero_le _⟩) hS (fun _ _ h => h) (fun _ h => h) (fun r_167 u t H locs ht hvm hw hP hz1 hk1 hS => ?_)
      rw [ht] at hP; clear hz1 hk1 ht hvm
      try dsimp only at hw
      try dsimp only at hP
      refine lv_if_ne (tgt := 192) hx hb dX7_divide_170 (by decide) (fun hc170 => ?_) (fun hc170 => ?_)
      · have hw := hw.1 hc170
        exact hK192 _ _ _ _ _ _ _ _ hw hP hS (lv_sub hl [0, 1, 2] rfl)
      · have hw := hw.2 hc170
        refine lv_aload_n hx hb dX7_divide_173 rfl (lv_at hl 0 rfl) ?_
        refine va_get (D := D) (ci := 7) (v := .ref (q 4)) (C := RX7) (T := TX7) (N := 12) hx hb hg ku_X7 hown hK hP 0 rfl rfl 9 (by decide) (hg _ kf_X7_40) (fun _ h9 => h9) rfl dX7_divide_174 ?_
        refine lv_bipush (v := 60) hx hb dX7_divide_177 (by decide) ?_
        refine lv_aload_n hx hb dX7_divide_179 rfl (lv_at hl 0 rfl) ?_
        refine va_get (D := D) (ci := 7) (v := .ref (q 4)) (C := RX7) (T := TX7) (N := 12) hx hb hg ku_X7 hown hK hP 0 rfl rfl 9 (by decide) (hg _ kf_X7_40) (fun _ h9 => h9) rfl dX7_divide_180 ?_
        refine lv_bipush (v := 60) hx hb dX7_divide_183 (by decide) ?_
        obtain ⟨hi185, hw⟩ := hw
        refine va_iald (D := D) hx hb hK hP 4 0 rfl rfl hi185 dX7_divide_185 ?_
        refine lv_iconst (v := 1) hx hb dX7_divide_186 (by decide) ?_
        refine lv_isub hx hb dX7_divide_187 ?_
        obtain ⟨hi188, hw⟩ := hw
        refine va_iast (D := D) hx hb hK hP (D7 hap) hS 4 0 rfl rfl hi188 dX7_divide_188 (fun H locs hP _ hS => ?_)
        have hP : va_P D vwCl (w7 cI q th sz sd ss pr me ab be pi (upd le (60 : Int32).toNatClampNeg ((le (60 : Int32).toNatClampNeg) - 1)) sg wo) H := hP
        refine lv_goto (tgt := 145) hx hb dX7_divide_189 (by decide) ?_
        exact ih _ _ _ _ _ _ _ _ hw hP hS (lv_sub hl [0, 1, 2] rfl)
set_option maxHeartbeats 4000000 in
set_option maxRecDepth 100000 in
theorem ml_X7_divide_201 (C : C7 p s m args meth c D cI q cX7_divide 8 none) (th : Int32) (sz : Int32) (sd : Int32) (ss : Int32) (pr : Int32) (me : Int32) (ab : Nat → Int32) (be : Nat → Int32) (sg : Nat → Int32) (post : (Nat → Int32) → (Nat → Int32) → (Nat → Int32) → Prop) (K248 : (Nat → Int32) → (Nat → Int32) → (Nat → Int32) → Int32 → Prop)
    (hK248 : (∀ (pi : Nat → Int32) (le : Nat → Int32) (wo : Nat → Int32) (x3 : Int32) (H : Heap) (locs : List Loc) (ls : Array Slot), K248 pi le wo x3 → va_P D vwCl (w7 cI q th sz sd ss pr me ab be pi le sg wo) H → va_S (A7 q) s.heap H locs → lv_has ls 8 [(0, .ref (q 0)), (3, .int x3)] → W p l e rX7_divide s m args below meth c H locs 0 0 (MQ below (va_Qv (S := (Nat → Int32) × (Nat → Int32) × (Nat → Int32)) (fun u => post u.1 u.2.1 u.2.2) (fun u t => va_P D vwCl (w7 cI q th sz sd ss pr me ab be u.1 u.2.1 sg u.2.2) t.heap) (A7 q)) args s 0 0 (A7 q)) (F0 m 248 ls []))) :
    ∀ (n : Nat) (pi : Nat → Int32) (le : Nat → Int32) (wo : Nat → Int32) (x3 : Int32) (H : Heap) (locs : List Loc) (ls : Array Slot), wl_X7_divide_201  post K248 n pi le wo x3 → va_P D vwCl (w7 cI q th sz sd ss pr me ab be pi le sg wo) H → va_S (A7 q) s.heap H locs → lv_has ls 8 [(0, .ref (q 0)), (3, .int x3)] → W p l e rX7_divide s m args below meth c H locs 0 0 (MQ below (va_Qv (S := (Nat → Int32) × (Nat → Int32) × (Nat → Int32)) (fun u => post u.1 u.2.1 u.2.2) (fun u t => va_P D vwCl (w7 cI q th sz sd ss pr me ab be u.1 u.2.1 sg u.2.2) t.heap) (A7 q)) args s 0 0 (A7 q)) (F0 m 201 ls []) := by
  obtain ⟨hx, hb, hr, hml, hown, hg, hlocks, hK, hap⟩ := id C
  intro n
  induction n with
  | zero => intro pi le wo x3 H locs ls hw; exact absurd hw id
  | succ n ih =>
    intro pi le wo x3 H locs ls hw hP hS hl
    refine lv_aload_n hx hb dX7_divide_201 rfl (lv_at hl 0 rfl) ?_
    refine va_get (D := D) (ci := 7) (v := .ref (q 4)) (C := RX7) (T := TX7) (N := 12) hx hb hg ku_X7 hown hK hP 0 rfl rfl 9 (by decide) (hg _ kf_X7_40) (fun _ h9 => h9) rfl dX7_divide_202 ?_
    refine lv_bipush (v := 62) hx hb dX7_divide_205 (by decide) ?_
    obtain ⟨hi207, hw⟩ := hw
    refine va_iald (D := D) hx hb hK hP 4 0 rfl rfl hi207 dX7_divide_207 ?_
    refine lv_if_le (tgt := 248) hx hb dX7_divide_208 (by decide) (fun hc208 => ?_) (fun hc208 => ?_)
    · have hw := hw.1 hc208
      exact hK248 _ _ _ _ _ _ _ hw hP hS (lv_sub hl [0, 1] rfl)
    · have hw := hw.2 hc208
      refine lv_aload_n hx hb dX7_divide_211 rfl (lv_at hl 0 rfl) ?_
      refine lv_bipush (v := 62) hx hb dX7_divide_212 (by decide) ?_
      refine lv_aload_n hx hb dX7_divide_214 rfl (lv_at hl 0 rfl) ?_
      refine va_get (D := D) (ci := 7) (v := .ref (q 4)) (C := RX7) (T := TX7) (N := 12) hx hb hg ku_X7 hown hK hP 0 rfl rfl 9 (by decide) (hg _ kf_X7_40) (fun _ h9 => h9) rfl dX7_divide_215 ?_
      refine lv_bipush (v := 62) hx hb dX7_divide_218 (by decide) ?_
      obtain ⟨hi220, hw⟩ := hw
      refine va_iald (D := D) hx hb hK hP 4 0 rfl rfl hi220 dX7_divide_220 ?_
      refine lv_iconst (v := 1) hx hb dX7_divide_221 (by decide) ?_
      refine lv_isub hx hb dX7_divide_222 ?_
      refine va_calli (va_runV (As := [.int 62, .int ((le (62 : Int32).toNatClampNeg) - 1)]) (rest := []) ⟨hx, hb, hml, hown, hg⟩ (m_X7_digit l D cI q th sz sd ss pr me ab be pi le sg wo 62 ((le (62 : Int32).toNatClampNeg) - 1) _ hw) (cwV 2 hg (x_gV km_X7_62 ki_X7_digit kz_X7_X7_digit kn_X7 kk_X7_digit) rfl rfl rfl (by decide +kernel) ⟨Nat.le_of_ble_eq_true rfl, Nat.le_of_ble_eq_true rfl⟩) (pre7V hP hK hap [.int 62, .int ((le (62 : Int32).toNatClampNeg) - 1)]) rfl rfl hl.1 rfl (lv_room (Nat.le_of_ble_eq_true rfl)) dX7_divide_223 ⟨Nat.zero_le _, Nat.zero_le _⟩) hS (fun _ _ h => h) (fun _ h => h) (fun r_223 u t H locs ht hvm hw hP hz1 hk1 hS => ?_)
      rw [ht] at hP; clear hz1 hk1 ht hvm
      try dsimp only at hw
      try dsimp only at hP
      refine lv_if_ne (tgt := 248) hx hb dX7_divide_226 (by decide) (fun hc226 => ?_) (fun hc226 => ?_)
      · have hw := hw.1 hc226
        exact hK248 _ _ _ _ _ _ _ hw hP hS (lv_sub hl [0, 1] rfl)
      · have hw := hw.2 hc226
        refine lv_aload_n hx hb dX7_divide_229 rfl (lv_at hl 0 rfl) ?_
        refine va_get (D := D) (ci := 7) (v := .ref (q 4)) (C := RX7) (T := TX7) (N := 12) hx hb hg ku_X7 hown hK hP 0 rfl rfl 9 (by decide) (hg _ kf_X7_40) (fun _ h9 => h9) rfl dX7_divide_230 ?_
        refine lv_bipush (v := 62) hx hb dX7_divide_233 (by decide) ?_
        refine lv_aload_n hx hb dX7_divide_235 rfl (lv_at hl 0 rfl) ?_
        refine va_get (D := D) (ci := 7) (v := .ref (q 4)) (C := RX7) (T := TX7) (N := 12) hx hb hg ku_X7 hown hK hP 0 rfl rfl 9 (by decide) (hg _ kf_X7_40) (fun _ h9 => h9) rfl dX7_divide_236 ?_
        refine lv_bipush (v := 62) hx hb dX7_divide_239 (by decide) ?_
        obtain ⟨hi241, hw⟩ := hw
        refine va_iald (D := D) hx hb hK hP 4 0 rfl rfl hi241 dX7_divide_241 ?_
        refine lv_iconst (v := 1) hx hb dX7_divide_242 (by decide) ?_
        refine lv_isub hx hb dX7_divide_243 ?_
        obtain ⟨hi244, hw⟩ := hw
        refine va_iast (D := D) hx hb hK hP (D7 hap) hS 4 0 rfl rfl hi244 dX7_divide_244 (fun H locs hP _ hS => ?_)
        have hP : va_P D vwCl (w7 cI q th sz sd ss pr me ab be pi (upd le (62 : Int32).toNatClampNeg ((le (62 : Int32).toNatClampNeg) - 1)) sg wo) H := hP
        refine lv_goto (tgt := 201) hx hb dX7_divide_245 (by decide) ?_
        exact ih _ _ _ _ _ _ _ hw hP hS (lv_sub hl [0, 1] rfl)
set_option maxHeartbeats 4000000 in
set_option maxRecDepth 100000 in
theorem mj_X7_divide_248 (C : C7 p s m args meth c D cI q cX7_divide 8 none) (th : Int32) (sz : Int32) (sd : Int32) (ss : Int32) (pr : Int32) (me : Int32) (ab : Nat → Int32) (be : Nat → Int32) (sg : Nat → Int32) (post : (Nat → Int32) → (Nat → Int32) → (Nat → Int32) → Prop) 
    
    (pi : Nat → Int32) (le : Nat → Int32) (wo : Nat → Int32) (x3 : Int32) (H : Heap) (locs : List Loc) (ls : Array Slot) (hw : wj_X7_divide_248  post  pi le wo x3) (hP : va_P D vwCl (w7 cI q th sz sd ss pr me ab be pi le sg wo) H) (hS : va_S (A7 q) s.heap H locs) (hl : lv_has ls 8 [(0, .ref (q 0)), (3, .int x3)]) : W p l e rX7_divide s m args below meth c H locs 0 0 (MQ below (va_Qv (S := (Nat → Int32) × (Nat → Int32) × (Nat → Int32)) (fun u => post u.1 u.2.1 u.2.2) (fun u t => va_P D vwCl (w7 cI q th sz sd ss pr me ab be u.1 u.2.1 sg u.2.2) t.heap) (A7 q)) args s 0 0 (A7 q)) (F0 m 248 ls []) := by
  obtain ⟨hx, hb, hr, hml, hown, hg, hlocks, hK, hap⟩ := id C
  unfold wj_X7_divide_248 at hw
  refine lv_aload_n hx hb dX7_divide_248 rfl (lv_at hl 0 rfl) ?_
  refine lv_bipush (v := 61) hx hb dX7_divide_249 (by decide) ?_
  refine lv_bipush (v := 62) hx hb dX7_divide_251 (by decide) ?_
  refine lv_iload_n hx hb dX7_divide_253 rfl (lv_at hl 1 rfl) ?_
  refine va_callv (va_runV (As := [.int 61, .int 62, .int x3]) (rest := []) ⟨hx, hb, hml, hown, hg⟩ (m_X7_shiftDown l D cI q th sz sd ss pr me ab be pi le sg wo 61 62 x3 _ hw) (cwV 3 hg (x_gV km_X7_87 ki_X7_shiftDown kz_X7_X7_shiftDown kn_X7 kk_X7_shiftDown) rfl rfl rfl (by decide +kernel) ⟨Nat.le_of_ble_eq_true rfl, Nat.le_of_ble_eq_true rfl⟩) (pre7V hP hK hap [.int 61, .int 62, .int x3]) rfl rfl hl.1 rfl (lv_room (Nat.le_of_ble_eq_true rfl)) dX7_divide_254 ⟨Nat.zero_le _, Nat.zero_le _⟩) hS (fun _ _ h => h) (fun _ h => h) (fun  u t H locs ht hvm hw hP hz1 hk1 hS => ?_)
  obtain ⟨pi_254, le_254, wo_254⟩ := u
  rw [ht] at hP; clear hz1 hk1 ht hvm
  try dsimp only at hw
  try dsimp only at hP
  exact W.vret hx hb hr (fun t ht hW => ⟨⟨(pi_254, le_254, wo_254), rfl, hw, by show va_P D vwCl _ t.heap; rw [ht]; exact hP⟩, hS.F ht⟩) hS.2.2 dX7_divide_257 hlocks
set_option maxHeartbeats 4000000 in
set_option maxRecDepth 100000 in
theorem mj_X7_divide_192 (C : C7 p s m args meth c D cI q cX7_divide 8 none) (th : Int32) (sz : Int32) (sd : Int32) (ss : Int32) (pr : Int32) (me : Int32) (ab : Nat → Int32) (be : Nat → Int32) (sg : Nat → Int32) (post : (Nat → Int32) → (Nat → Int32) → (Nat → Int32) → Prop) 
    
    (pi : Nat → Int32) (le : Nat → Int32) (wo : Nat → Int32) (x3 : Int32) (x4 : Int32) (H : Heap) (locs : List Loc) (ls : Array Slot) (hw : wj_X7_divide_192  post  pi le wo x3 x4) (hP : va_P D vwCl (w7 cI q th sz sd ss pr me ab be pi le sg wo) H) (hS : va_S (A7 q) s.heap H locs) (hl : lv_has ls 8 [(0, .ref (q 0)), (3, .int x3), (4, .int x4)]) : W p l e rX7_divide s m args below meth c H locs 0 0 (MQ below (va_Qv (S := (Nat → Int32) × (Nat → Int32) × (Nat → Int32)) (fun u => post u.1 u.2.1 u.2.2) (fun u t => va_P D vwCl (w7 cI q th sz sd ss pr me ab be u.1 u.2.1 sg u.2.2) t.heap) (A7 q)) args s 0 0 (A7 q)) (F0 m 192 ls []) := by
  obtain ⟨hx, hb, hr, hml, hown, hg, hlocks, hK, hap⟩ := id C
  unfold wj_X7_divide_192 at hw
  refine lv_aload_n hx hb dX7_divide_192 rfl (lv_at hl 0 rfl) ?_
  refine va_get (D := D) (ci := 7) (v := .ref (q 4)) (C := RX7) (T := TX7) (N := 12) hx hb hg ku_X7 hown hK hP 0 rfl rfl 9 (by decide) (hg _ kf_X7_40) (fun _ h9 => h9) rfl dX7_divide_193 ?_
  refine lv_bipush (v := 62) hx hb dX7_divide_196 (by decide) ?_
  refine lv_iload hx hb dX7_divide_198 (lv_at hl 2 rfl) ?_
  obtain ⟨hi200, hw⟩ := hw
  refine va_iast (D := D) hx hb hK hP (D7 hap) hS 4 0 rfl rfl hi200 dX7_divide_200 (fun H locs hP _ hS => ?_)
  have hP : va_P D vwCl (w7 cI q th sz sd ss pr me ab be pi (upd le (62 : Int32).toNatClampNeg x4) sg wo) H := hP
  obtain ⟨n201, hw⟩ := hw
  refine ml_X7_divide_201 C th sz sd ss pr me ab be sg post _ ?_ n201 _ _ _ _ _ _ _ hw hP hS (lv_sub hl [0, 1] rfl)
  · intro pi le wo x3 H locs ls hw hP hS hl
    exact mj_X7_divide_248 C th sz sd ss pr me ab be sg post  _ _ _ _ _ _ _ hw hP hS (lv_sub hl [0, 1] rfl)
set_option maxHeartbeats 4000000 in
set_option maxRecDepth 100000 in
theorem m_X7_divide (l : Launch) (D : va_G) (cI : ClassId) (q : Nat → Nat) (th : Int32) (sz : Int32) (sd : Int32) (ss : Int32) (pr : Int32) (me : Int32) (ab : Nat → Int32) (be : Nat → Int32) (pi : Nat → Int32) (le : Nat → Int32) (sg : Nat → Int32) (wo : Nat → Int32) (x1 : Int32) (x2 : Int32) (post : (Nat → Int32) → (Nat → Int32) → (Nat → Int32) → Prop) (hw : wp_X7_divide pi le wo x1 x2 post) : Met l yX7_divide (wu yX7_divide cX7_divide 8 none) rX7_divide (va_Pc [.ref (q 0), .int x1, .int x2] (fun U => va_P D vwCl (w7 cI q th sz sd ss pr me ab be pi le sg wo) U.heap ∧ K7 D cI q U)) (va_Qv (S := (Nat → Int32) × (Nat → Int32) × (Nat → Int32)) (fun u => post u.1 u.2.1 u.2.2) (fun u t => va_P D vwCl (w7 cI q th sz sd ss pr me ab be u.1 u.2.1 sg u.2.2) t.heap) (A7 q)) 0 0 (A7 q) := by
  refine Met.ofW (cc := cX7_divide) (maxL := 8) (ret := none) (by decide) rfl ?_
  intro p e s m args below meth c s₁ B hml hv
  obtain ⟨rfl, hP, hK, hap⟩ := hv
  have C : C7 p s m _ meth c D cI q cX7_divide 8 none := ⟨B.exec, B.bytes, B.returns, hml, findClass_of_methodNamed B.named, x_hg (atoms_spec (ws := wu yX7_divide cX7_divide 8 none) B.pre), B.notSynchronized, hK, hap⟩
  obtain ⟨hx, hb, hr, hml, hown, hg, hlocks, hK, hap⟩ := id C
  have hS : va_S (A7 q) s.heap s.heap [] := va_S.rf
  have hl := lv_entry ([.ref (q 0), .int x1, .int x2]) (n := 8) (Nat.le_of_ble_eq_true rfl)
  rw [lg_entry_eq]
  generalize (lg_sl ([.ref (q 0), .int x1, .int x2]) ++ List.replicate (8 - (lg_sl ([.ref (q 0), .int x1, .int x2])).length) Slot.unset).toArray = ls at hl ⊢
  have hl : lv_has ls 8 [(0, .ref (q 0)), (1, .int x1), (2, .int x2)] := hl
  unfold wp_X7_divide at hw
  refine lv_aload_n hx hb dX7_divide_0 rfl (lv_at hl 0 rfl) ?_
  refine va_get (D := D) (ci := 7) (v := .ref (q 4)) (C := RX7) (T := TX7) (N := 12) hx hb hg ku_X7 hown hK hP 0 rfl rfl 9 (by decide) (hg _ kf_X7_40) (fun _ h9 => h9) rfl dX7_divide_1 ?_
  refine lv_bipush (v := 60) hx hb dX7_divide_4 (by decide) ?_
  refine lv_iconst (v := 0) hx hb dX7_divide_6 (by decide) ?_
  obtain ⟨hi7, hw⟩ := hw
  refine va_iast (D := D) hx hb hK hP (D7 hap) hS 4 0 rfl rfl hi7 dX7_divide_7 (fun H locs hP _ hS => ?_)
  have hP : va_P D vwCl (w7 cI q th sz sd ss pr me ab be pi (upd le (60 : Int32).toNatClampNeg 0) sg wo) H := hP
  refine lv_aload_n hx hb dX7_divide_8 rfl (lv_at hl 0 rfl) ?_
  refine lv_iload_n hx hb dX7_divide_9 rfl (lv_at hl 1 rfl) ?_
  refine lv_iload_n hx hb dX7_divide_10 rfl (lv_at hl 2 rfl) ?_
  refine va_calli (va_runV (As := [.int x1, .int x2]) (rest := []) ⟨hx, hb, hml, hown, hg⟩ (m_X7_order l D cI q th sz sd ss pr me ab be pi (upd le (60 : Int32).toNatClampNeg 0) sg wo x1 x2 _ hw) (cwV 2 hg (x_gV km_X7_68 ki_X7_order kz_X7_X7_order kn_X7 kk_X7_order) rfl rfl rfl (by decide +kernel) ⟨Nat.le_of_ble_eq_true rfl, Nat.le_of_ble_eq_true rfl⟩) (pre7V hP hK hap [.int x1, .int x2]) rfl rfl hl.1 rfl (lv_room (Nat.le_of_ble_eq_true rfl)) dX7_divide_11 ⟨Nat.zero_le _, Nat.zero_le _⟩) hS (fun _ _ h => h) (fun _ h => h) (fun r_11 u t H locs ht hvm hw hP hz1 hk1 hS => ?_)
  rw [ht] at hP; clear hz1 hk1 ht hvm
  try dsimp only at hw
  try dsimp only at hP
  refine lv_if_ge (tgt := 25) hx hb dX7_divide_14 (by decide) (fun hc14 => ?_) (fun hc14 => ?_)
  · have hw := hw.1 hc14
    refine lv_bipush (v := 16) hx hb dX7_divide_25 (by decide) ?_
    refine lv_aload_n hx hb dX7_divide_27 rfl (lv_at hl 0 rfl) ?_
    refine va_get (D := D) (ci := 7) (v := .ref (q 4)) (C := RX7) (T := TX7) (N := 12) hx hb hg ku_X7 hown hK hP 0 rfl rfl 9 (by decide) (hg _ kf_X7_40) (fun _ h9 => h9) rfl dX7_divide_28 ?_
    refine lv_iload_n hx hb dX7_divide_31 rfl (lv_at hl 2 rfl) ?_
    obtain ⟨hi32, hw⟩ := hw
    refine va_iald (D := D) hx hb hK hP 4 0 rfl rfl hi32 dX7_divide_32 ?_
    refine lv_imul hx hb dX7_divide_33 ?_
    refine lv_aload_n hx hb dX7_divide_34 rfl (lv_at hl 0 rfl) ?_
    refine lv_iload_n hx hb dX7_divide_35 rfl (lv_at hl 2 rfl) ?_
    refine va_calli (va_runV (As := [.int x2]) (rest := [.int (16 * ((upd le (60 : Int32).toNatClampNeg 0) (x2 : Int32).toNatClampNeg))]) ⟨hx, hb, hml, hown, hg⟩ (m_X7_bits l D cI q th sz sd ss pr me ab be pi (upd le (60 : Int32).toNatClampNeg 0) sg wo x2 _ hw) (cwV 1 hg (x_gV km_X7_74 ki_X7_bits kz_X7_X7_bits kn_X7 kk_X7_bits) rfl rfl rfl (by decide +kernel) ⟨Nat.le_of_ble_eq_true rfl, Nat.le_of_ble_eq_true rfl⟩) (pre7V hP hK hap [.int x2]) rfl rfl hl.1 rfl (lv_room (Nat.le_of_ble_eq_true rfl)) dX7_divide_36 ⟨Nat.zero_le _, Nat.zero_le _⟩) hS (fun _ _ h => h) (fun _ h => h) (fun r_36 u t H locs ht hvm hw hP hz1 hk1 hS => ?_)
    rw [ht] at hP; clear hz1 hk1 ht hvm
    try dsimp only at hw
    try dsimp only at hP
    refine lv_isub hx hb dX7_divide_39 ?_
    refine lv_topi (fun x3_40 ex3_40 => ?_)
    have hw := hw x3_40 ex3_40
    refine lv_istore_n (lv' := [(3, .int x3_40), (0, .ref (q 0)), (1, .int x1), (2, .int x2)]) hx hb dX7_divide_40 rfl hl (by decide) rfl (fun ls hl => ?_)
    refine lv_aload_n hx hb dX7_divide_41 rfl (lv_at hl 1 rfl) ?_
    refine lv_bipush (v := 62) hx hb dX7_divide_42 (by decide) ?_
    refine lv_iload_n hx hb dX7_divide_44 rfl (lv_at hl 2 rfl) ?_
    refine lv_iload_n hx hb dX7_divide_45 rfl (lv_at hl 0 rfl) ?_
    refine va_callv (va_runV (As := [.int 62, .int x1, .int x3_40]) (rest := []) ⟨hx, hb, hml, hown, hg⟩ (m_X7_shiftUp l D cI q th sz sd ss pr me ab be pi (upd le (60 : Int32).toNatClampNeg 0) sg wo 62 x1 x3_40 _ hw) (cwV 3 hg (x_gV km_X7_78 ki_X7_shiftUp kz_X7_X7_shiftUp kn_X7 kk_X7_shiftUp) rfl rfl rfl (by decide +kernel) ⟨Nat.le_of_ble_eq_true rfl, Nat.le_of_ble_eq_true rfl⟩) (pre7V hP hK hap [.int 62, .int x1, .int x3_40]) rfl rfl hl.1 rfl (lv_room (Nat.le_of_ble_eq_true rfl)) dX7_divide_46 ⟨Nat.zero_le _, Nat.zero_le _⟩) hS (fun _ _ h => h) (fun _ h => h) (fun  u t H locs ht hvm hw hP hz1 hk1 hS => ?_)
    obtain ⟨pi_46, le_46, wo_46⟩ := u
    rw [ht] at hP; clear hz1 hk1 ht hvm
    try dsimp only at hw
    try dsimp only at hP
    refine lv_aload_n hx hb dX7_divide_49 rfl (lv_at hl 1 rfl) ?_
    refine lv_bipush (v := 63) hx hb dX7_divide_50 (by decide) ?_
    refine lv_iload_n hx hb dX7_divide_52 rfl (lv_at hl 3 rfl) ?_
    refine lv_iload_n hx hb dX7_divide_53 rfl (lv_at hl 0 rfl) ?_
    refine va_callv (va_runV (As := [.int 63, .int x2, .int x3_40]) (rest := []) ⟨hx, hb, hml, hown, hg⟩ (m_X7_shiftUp l D cI q th sz sd ss pr me ab be pi_46 le_46 sg wo_46 63 x2 x3_40 _ hw) (cwV 3 hg (x_gV km_X7_78 ki_X7_shiftUp kz_X7_X7_shiftUp kn_X7 kk_X7_shiftUp) rfl rfl rfl (by decide +kernel) ⟨Nat.le_of_ble_eq_true rfl, Nat.le_of_ble_eq_true rfl⟩) (pre7V hP hK hap [.int 63, .int x2, .int x3_40]) rfl rfl hl.1 rfl (lv_room (Nat.le_of_ble_eq_true rfl)) dX7_divide_54 ⟨Nat.zero_le _, Nat.zero_le _⟩) hS (fun _ _ h => h) (fun _ h => h) (fun  u t H locs ht hvm hw hP hz1 hk1 hS => ?_)
    obtain ⟨pi_54, le_54, wo_54⟩ := u
    rw [ht] at hP; clear hz1 hk1 ht hvm
    try dsimp only at hw
    try dsimp only at hP
    refine lv_aload_n hx hb dX7_divide_57 rfl (lv_at hl 1 rfl) ?_
    refine va_get (D := D) (ci := 7) (v := .ref (q 4)) (C := RX7) (T := TX7) (N := 12) hx hb hg ku_X7 hown hK hP 0 rfl rfl 9 (by decide) (hg _ kf_X7_40) (fun _ h9 => h9) rfl dX7_divide_58 ?_
    refine lv_bipush (v := 63) hx hb dX7_divide_61 (by decide) ?_
    obtain ⟨hi63, hw⟩ := hw
    refine va_iald (D := D) hx hb hK hP 4 0 rfl rfl hi63 dX7_divide_63 ?_
    refine lv_topi (fun x4_64 ex4_64 => ?_)
    have hw := hw x4_64 ex4_64
    refine lv_istore (lv' := [(4, .int x4_64), (3, .int x3_40), (0, .ref (q 0)), (1, .int x1), (2, .int x2)]) hx hb dX7_divide_64 hl (by decide) rfl (fun ls hl => ?_)
    refine lv_aload_n hx hb dX7_divide_66 rfl (lv_at hl 2 rfl) ?_
    refine va_get (D := D) (ci := 7) (v := .ref (q 4)) (C := RX7) (T := TX7) (N := 12) hx hb hg ku_X7 hown hK hP 0 rfl rfl 9 (by decide) (hg _ kf_X7_40) (fun _ h9 => h9) rfl dX7_divide_67 ?_
    refine lv_bipush (v := 62) hx hb dX7_divide_70 (by decide) ?_
    obtain ⟨hi72, hw⟩ := hw
    refine va_iald (D := D) hx hb hK hP 4 0 rfl rfl hi72 dX7_divide_72 ?_
    refine lv_iload hx hb dX7_divide_73 (lv_at hl 0 rfl) ?_
    refine lv_isub hx hb dX7_divide_75 ?_
    refine lv_topi (fun x5_76 ex5_76 => ?_)
    have hw := hw x5_76 ex5_76
    refine lv_istore (lv' := [(5, .int x5_76), (4, .int x4_64), (3, .int x3_40), (0, .ref (q 0)), (1, .int x1), (2, .int x2)]) hx hb dX7_divide_76 hl (by decide) rfl (fun ls hl => ?_)
    refine lv_aload_n hx hb dX7_divide_78 rfl (lv_at hl 3 rfl) ?_
    refine va_get (D := D) (ci := 7) (v := .ref (q 3)) (C := RX7) (T := TX7) (N := 12) hx hb hg ku_X7 hown hK hP 0 rfl rfl 8 (by decide) (hg _ kf_X7_37) (fun _ h9 => h9) rfl dX7_divide_79 ?_
    refine lv_ldc (v := 93000) hx hb hown (hg _ kc_X7_82) dX7_divide_82 ?_
    refine lv_aload_n hx hb dX7_divide_84 rfl (lv_at hl 3 rfl) ?_
    refine va_get (D := D) (ci := 7) (v := .ref (q 4)) (C := RX7) (T := TX7) (N := 12) hx hb hg ku_X7 hown hK hP 0 rfl rfl 9 (by decide) (hg _ kf_X7_40) (fun _ h9 => h9) rfl dX7_divide_85 ?_
    refine lv_bipush (v := 62) hx hb dX7_divide_88 (by decide) ?_
    obtain ⟨hi90, hw⟩ := hw
    refine va_iald (D := D) hx hb hK hP 4 0 rfl rfl hi90 dX7_divide_90 ?_
    refine lv_iadd hx hb dX7_divide_91 ?_
    refine lv_iconst (v := 0) hx hb dX7_divide_92 (by decide) ?_
    obtain ⟨hi93, hw⟩ := hw
    refine va_iast (D := D) hx hb hK hP (D7 hap) hS 3 0 rfl rfl hi93 dX7_divide_93 (fun H locs hP _ hS => ?_)
    have hP : va_P D vwCl (w7 cI q th sz sd ss pr me ab be (upd pi_54 ((93000 + (le_54 (62 : Int32).toNatClampNeg)) : Int32).toNatClampNeg 0) le_54 sg wo_54) H := hP
    refine lv_ldc (v := 93000) hx hb hown (hg _ kc_X7_82) dX7_divide_94 ?_
    refine lv_istore (lv' := [(6, .int 93000), (5, .int x5_76), (4, .int x4_64), (3, .int x3_40), (0, .ref (q 0)), (1, .int x1), (2, .int x2)]) hx hb dX7_divide_96 hl (by decide) rfl (fun ls hl => ?_)
    refine lv_iload hx hb dX7_divide_98 (lv_at hl 1 rfl) ?_
    refine lv_istore (lv' := [(7, .int x5_76), (6, .int 93000), (5, .int x5_76), (4, .int x4_64), (3, .int x3_40), (0, .ref (q 0)), (1, .int x1), (2, .int x2)]) hx hb dX7_divide_100 hl (by decide) rfl (fun ls hl => ?_)
    obtain ⟨n102, hw⟩ := hw
    refine ml_X7_divide_102 C th sz sd ss pr me ab be sg post _ ?_ n102 _ _ _ _ _ _ _ _ _ _ _ hw hP hS (lv_sub hl [5, 4, 3, 2, 1, 0] rfl)
    · intro pi le wo x3 x4 x5 H locs ls hw hP hS hl
      refine lv_aload_n hx hb dX7_divide_134 rfl (lv_at hl 0 rfl) ?_
      refine va_get (D := D) (ci := 7) (v := .ref (q 4)) (C := RX7) (T := TX7) (N := 12) hx hb hg ku_X7 hown hK hP 0 rfl rfl 9 (by decide) (hg _ kf_X7_40) (fun _ h9 => h9) rfl dX7_divide_135 ?_
      refine lv_bipush (v := 60) hx hb dX7_divide_138 (by decide) ?_
      refine lv_iload hx hb dX7_divide_140 (lv_at hl 3 rfl) ?_
      refine lv_iconst (v := 1) hx hb dX7_divide_142 (by decide) ?_
      refine lv_iadd hx hb dX7_divide_143 ?_
      obtain ⟨hi144, hw⟩ := hw
      refine va_iast (D := D) hx hb hK hP (D7 hap) hS 4 0 rfl rfl hi144 dX7_divide_144 (fun H locs hP _ hS => ?_)
      have hP : va_P D vwCl (w7 cI q th sz sd ss pr me ab be pi (upd le (60 : Int32).toNatClampNeg (x5 + 1)) sg wo) H := hP
      obtain ⟨n145, hw⟩ := hw
      refine ml_X7_divide_145 C th sz sd ss pr me ab be sg post _ ?_ n145 _ _ _ _ _ _ _ _ hw hP hS (lv_sub hl [0, 1, 2] rfl)
      · intro pi le wo x3 x4 H locs ls hw hP hS hl
        exact mj_X7_divide_192 C th sz sd ss pr me ab be sg post  _ _ _ _ _ _ _ _ hw hP hS (lv_sub hl [0, 1, 2] rfl)
  · have hw := hw.2 hc14
    refine lv_aload_n hx hb dX7_divide_17 rfl (lv_at hl 0 rfl) ?_
    refine lv_bipush (v := 61) hx hb dX7_divide_18 (by decide) ?_
    refine lv_iload_n hx hb dX7_divide_20 rfl (lv_at hl 1 rfl) ?_
    refine va_callv (va_runV (As := [.int 61, .int x1]) (rest := []) ⟨hx, hb, hml, hown, hg⟩ (m_X7_copy l D cI q th sz sd ss pr me ab be pi (upd le (60 : Int32).toNatClampNeg 0) sg wo 61 x1 _ hw) (cwV 2 hg (x_gV km_X7_71 ki_X7_copy kz_X7_X7_copy kn_X7 kk_X7_copy) rfl rfl rfl (by decide +kernel) ⟨Nat.le_of_ble_eq_true rfl, Nat.le_of_ble_eq_true rfl⟩) (pre7V hP hK hap [.int 61, .int x1]) rfl rfl hl.1 rfl (lv_room (Nat.le_of_ble_eq_true rfl)) dX7_divide_21 ⟨Nat.zero_le _, Nat.zero_le _⟩) hS (fun _ _ h => h) (fun _ h => h) (fun  u t H locs ht hvm hw hP hz1 hk1 hS => ?_)
    obtain ⟨pi_21, le_21⟩ := u
    rw [ht] at hP; clear hz1 hk1 ht hvm
    try dsimp only at hw
    try dsimp only at hP
    exact W.vret hx hb hr (fun t ht hW => ⟨⟨(pi_21, le_21, wo), rfl, hw, by show va_P D vwCl _ t.heap; rw [ht]; exact hP⟩, hS.F ht⟩) hS.2.2 dX7_divide_24 hlocks
-- ===== ExactFilterModel.common
abbrev rX7_common : Room := { frames := 3, cells := 0, slots := 0, locals := 80 }
def wl_X7_common_14  (post : (Nat → Int32) → (Nat → Int32) → (Nat → Int32) → Prop) (K51 : (Nat → Int32) → (Nat → Int32) → (Nat → Int32) → Prop) : Nat → (Nat → Int32) → (Nat → Int32) → (Nat → Int32) → Prop
  | 0, _, _, _ => False
  | n + 1, pi, le, wo => vp_in 58 64 ∧ ((le (58 : Int32).toNatClampNeg) ≤ 0 → K51 pi le wo) ∧ (¬ (le (58 : Int32).toNatClampNeg) ≤ 0 → wp_X7_divide pi le wo 59 58 (fun (pi_29 : Nat → Int32) (le_29 : Nat → Int32) (wo_29 : Nat → Int32) => wp_X7_copy pi_29 le_29 59 58 (fun (pi_37 : Nat → Int32) (le_37 : Nat → Int32) => wp_X7_copy pi_37 le_37 58 61 (fun (pi_45 : Nat → Int32) (le_45 : Nat → Int32) => wl_X7_common_14  post K51 n pi_45 le_45 wo_29))))
def wp_X7_common (pi : Nat → Int32) (le : Nat → Int32) (wo : Nat → Int32) (x1 : Int32) (x2 : Int32) (post : (Nat → Int32) → (Nat → Int32) → (Nat → Int32) → Prop) : Prop := wp_X7_copy pi le 59 x1 (fun (pi_4 : Nat → Int32) (le_4 : Nat → Int32) => wp_X7_copy pi_4 le_4 58 x2 (fun (pi_11 : Nat → Int32) (le_11 : Nat → Int32) => ∃ n14 : Nat, wl_X7_common_14  post (fun (pi : Nat → Int32) (le : Nat → Int32) (wo : Nat → Int32) => post pi le wo) n14 pi_11 le_11 wo))
set_option maxHeartbeats 4000000 in
set_option maxRecDepth 100000 in
theorem ml_X7_common_14 (C : C7 p s m args meth c D cI q cX7_common 3 none) (th : Int32) (sz : Int32) (sd : Int32) (ss : Int32) (pr : Int32) (me : Int32) (ab : Nat → Int32) (be : Nat → Int32) (sg : Nat → Int32) (post : (Nat → Int32) → (Nat → Int32) → (Nat → Int32) → Prop) (K51 : (Nat → Int32) → (Nat → Int32) → (Nat → Int32) → Prop)
    (hK51 : (∀ (pi : Nat → Int32) (le : Nat → Int32) (wo : Nat → Int32) (H : Heap) (locs : List Loc) (ls : Array Slot), K51 pi le wo → va_P D vwCl (w7 cI q th sz sd ss pr me ab be pi le sg wo) H → va_S (A7 q) s.heap H locs → lv_has ls 3 [] → W p l e rX7_common s m args below meth c H locs 0 0 (MQ below (va_Qv (S := (Nat → Int32) × (Nat → Int32) × (Nat → Int32)) (fun u => post u.1 u.2.1 u.2.2) (fun u t => va_P D vwCl (w7 cI q th sz sd ss pr me ab be u.1 u.2.1 sg u.2.2) t.heap) (A7 q)) args s 0 0 (A7 q)) (F0 m 51 ls []))) :
    ∀ (n : Nat) (pi : Nat → Int32) (le : Nat → Int32) (wo : Nat → Int32) (H : Heap) (locs : List Loc) (ls : Array Slot), wl_X7_common_14  post K51 n pi le wo → va_P D vwCl (w7 cI q th sz sd ss pr me ab be pi le sg wo) H → va_S (A7 q) s.heap H locs → lv_has ls 3 [(0, .ref (q 0))] → W p l e rX7_common s m args below meth c H locs 0 0 (MQ below (va_Qv (S := (Nat → Int32) × (Nat → Int32) × (Nat → Int32)) (fun u => post u.1 u.2.1 u.2.2) (fun u t => va_P D vwCl (w7 cI q th sz sd ss pr me ab be u.1 u.2.1 sg u.2.2) t.heap) (A7 q)) args s 0 0 (A7 q)) (F0 m 14 ls []) := by
  obtain ⟨hx, hb, hr, hml, hown, hg, hlocks, hK, hap⟩ := id C
  intro n
  induction n with
  | zero => intro pi le wo H locs ls hw; exact absurd hw id
  | succ n ih =>
    intro pi le wo H locs ls hw hP hS hl
    refine lv_aload_n hx hb dX7_common_14 rfl (lv_at hl 0 rfl) ?_
    refine va_get (D := D) (ci := 7) (v := .ref (q 4)) (C := RX7) (T := TX7) (N := 12) hx hb hg ku_X7 hown hK hP 0 rfl rfl 9 (by decide) (hg _ kf_X7_40) (fun _ h9 => h9) rfl dX7_common_15 ?_
    refine lv_bipush (v := 58) hx hb dX7_common_18 (by decide) ?_
    obtain ⟨hi20, hw⟩ := hw
    refine va_iald (D := D) hx hb hK hP 4 0 rfl rfl hi20 dX7_common_20 ?_
    refine lv_if_le (tgt := 51) hx hb dX7_common_21 (by decide) (fun hc21 => ?_) (fun hc21 => ?_)
    · have hw := hw.1 hc21
      exact hK51 _ _ _ _ _ _ hw hP hS (lv_sub hl [] rfl)
    · have hw := hw.2 hc21
      refine lv_aload_n hx hb dX7_common_24 rfl (lv_at hl 0 rfl) ?_
      refine lv_bipush (v := 59) hx hb dX7_common_25 (by decide) ?_
      refine lv_bipush (v := 58) hx hb dX7_common_27 (by decide) ?_
      refine va_callv (va_runV (As := [.int 59, .int 58]) (rest := []) ⟨hx, hb, hml, hown, hg⟩ (m_X7_divide l D cI q th sz sd ss pr me ab be pi le sg wo 59 58 _ hw) (cwV 2 hg (x_gV km_X7_93 ki_X7_divide kz_X7_X7_divide kn_X7 kk_X7_divide) rfl rfl rfl (by decide +kernel) ⟨Nat.le_of_ble_eq_true rfl, Nat.le_of_ble_eq_true rfl⟩) (pre7V hP hK hap [.int 59, .int 58]) rfl rfl hl.1 rfl (lv_room (Nat.le_of_ble_eq_true rfl)) dX7_common_29 ⟨Nat.zero_le _, Nat.zero_le _⟩) hS (fun _ _ h => h) (fun _ h => h) (fun  u t H locs ht hvm hw hP hz1 hk1 hS => ?_)
      obtain ⟨pi_29, le_29, wo_29⟩ := u
      rw [ht] at hP; clear hz1 hk1 ht hvm
      try dsimp only at hw
      try dsimp only at hP
      refine lv_aload_n hx hb dX7_common_32 rfl (lv_at hl 0 rfl) ?_
      refine lv_bipush (v := 59) hx hb dX7_common_33 (by decide) ?_
      refine lv_bipush (v := 58) hx hb dX7_common_35 (by decide) ?_
      refine va_callv (va_runV (As := [.int 59, .int 58]) (rest := []) ⟨hx, hb, hml, hown, hg⟩ (m_X7_copy l D cI q th sz sd ss pr me ab be pi_29 le_29 sg wo_29 59 58 _ hw) (cwV 2 hg (x_gV km_X7_71 ki_X7_copy kz_X7_X7_copy kn_X7 kk_X7_copy) rfl rfl rfl (by decide +kernel) ⟨Nat.le_of_ble_eq_true rfl, Nat.le_of_ble_eq_true rfl⟩) (pre7V hP hK hap [.int 59, .int 58]) rfl rfl hl.1 rfl (lv_room (Nat.le_of_ble_eq_true rfl)) dX7_common_37 ⟨Nat.zero_le _, Nat.zero_le _⟩) hS (fun _ _ h => h) (fun _ h => h) (fun  u t H locs ht hvm hw hP hz1 hk1 hS => ?_)
      obtain ⟨pi_37, le_37⟩ := u
      rw [ht] at hP; clear hz1 hk1 ht hvm
      try dsimp only at hw
      try dsimp only at hP
      refine lv_aload_n hx hb dX7_common_40 rfl (lv_at hl 0 rfl) ?_
      refine lv_bipush (v := 58) hx hb dX7_common_41 (by decide) ?_
      refine lv_bipush (v := 61) hx hb dX7_common_43 (by decide) ?_
      refine va_callv (va_runV (As := [.int 58, .int 61]) (rest := []) ⟨hx, hb, hml, hown, hg⟩ (m_X7_copy l D cI q th sz sd ss pr me ab be pi_37 le_37 sg wo_29 58 61 _ hw) (cwV 2 hg (x_gV km_X7_71 ki_X7_copy kz_X7_X7_copy kn_X7 kk_X7_copy) rfl rfl rfl (by decide +kernel) ⟨Nat.le_of_ble_eq_true rfl, Nat.le_of_ble_eq_true rfl⟩) (pre7V hP hK hap [.int 58, .int 61]) rfl rfl hl.1 rfl (lv_room (Nat.le_of_ble_eq_true rfl)) dX7_common_45 ⟨Nat.zero_le _, Nat.zero_le _⟩) hS (fun _ _ h => h) (fun _ h => h) (fun  u t H locs ht hvm hw hP hz1 hk1 hS => ?_)
      obtain ⟨pi_45, le_45⟩ := u
      rw [ht] at hP; clear hz1 hk1 ht hvm
      try dsimp only at hw
      try dsimp only at hP
      refine lv_goto (tgt := 14) hx hb dX7_common_48 (by decide) ?_
      exact ih _ _ _ _ _ _ hw hP hS (lv_sub hl [0] rfl)
set_option maxHeartbeats 4000000 in
set_option maxRecDepth 100000 in
theorem m_X7_common (l : Launch) (D : va_G) (cI : ClassId) (q : Nat → Nat) (th : Int32) (sz : Int32) (sd : Int32) (ss : Int32) (pr : Int32) (me : Int32) (ab : Nat → Int32) (be : Nat → Int32) (pi : Nat → Int32) (le : Nat → Int32) (sg : Nat → Int32) (wo : Nat → Int32) (x1 : Int32) (x2 : Int32) (post : (Nat → Int32) → (Nat → Int32) → (Nat → Int32) → Prop) (hw : wp_X7_common pi le wo x1 x2 post) : Met l yX7_common (wu yX7_common cX7_common 3 none) rX7_common (va_Pc [.ref (q 0), .int x1, .int x2] (fun U => va_P D vwCl (w7 cI q th sz sd ss pr me ab be pi le sg wo) U.heap ∧ K7 D cI q U)) (va_Qv (S := (Nat → Int32) × (Nat → Int32) × (Nat → Int32)) (fun u => post u.1 u.2.1 u.2.2) (fun u t => va_P D vwCl (w7 cI q th sz sd ss pr me ab be u.1 u.2.1 sg u.2.2) t.heap) (A7 q)) 0 0 (A7 q) := by
  refine Met.ofW (cc := cX7_common) (maxL := 3) (ret := none) (by decide) rfl ?_
  intro p e s m args below meth c s₁ B hml hv
  obtain ⟨rfl, hP, hK, hap⟩ := hv
  have C : C7 p s m _ meth c D cI q cX7_common 3 none := ⟨B.exec, B.bytes, B.returns, hml, findClass_of_methodNamed B.named, x_hg (atoms_spec (ws := wu yX7_common cX7_common 3 none) B.pre), B.notSynchronized, hK, hap⟩
  obtain ⟨hx, hb, hr, hml, hown, hg, hlocks, hK, hap⟩ := id C
  have hS : va_S (A7 q) s.heap s.heap [] := va_S.rf
  have hl := lv_entry ([.ref (q 0), .int x1, .int x2]) (n := 3) (Nat.le_of_ble_eq_true rfl)
  rw [lg_entry_eq]
  generalize (lg_sl ([.ref (q 0), .int x1, .int x2]) ++ List.replicate (3 - (lg_sl ([.ref (q 0), .int x1, .int x2])).length) Slot.unset).toArray = ls at hl ⊢
  have hl : lv_has ls 3 [(0, .ref (q 0)), (1, .int x1), (2, .int x2)] := hl
  unfold wp_X7_common at hw
  refine lv_aload_n hx hb dX7_common_0 rfl (lv_at hl 0 rfl) ?_
  refine lv_bipush (v := 59) hx hb dX7_common_1 (by decide) ?_
  refine lv_iload_n hx hb dX7_common_3 rfl (lv_at hl 1 rfl) ?_
  refine va_callv (va_runV (As := [.int 59, .int x1]) (rest := []) ⟨hx, hb, hml, hown, hg⟩ (m_X7_copy l D cI q th sz sd ss pr me ab be pi le sg wo 59 x1 _ hw) (cwV 2 hg (x_gV km_X7_71 ki_X7_copy kz_X7_X7_copy kn_X7 kk_X7_copy) rfl rfl rfl (by decide +kernel) ⟨Nat.le_of_ble_eq_true rfl, Nat.le_of_ble_eq_true rfl⟩) (pre7V hP hK hap [.int 59, .int x1]) rfl rfl hl.1 rfl (lv_room (Nat.le_of_ble_eq_true rfl)) dX7_common_4 ⟨Nat.zero_le _, Nat.zero_le _⟩) hS (fun _ _ h => h) (fun _ h => h) (fun  u t H locs ht hvm hw hP hz1 hk1 hS => ?_)
  obtain ⟨pi_4, le_4⟩ := u
  rw [ht] at hP; clear hz1 hk1 ht hvm
  try dsimp only at hw
  try dsimp only at hP
  refine lv_aload_n hx hb dX7_common_7 rfl (lv_at hl 0 rfl) ?_
  refine lv_bipush (v := 58) hx hb dX7_common_8 (by decide) ?_
  refine lv_iload_n hx hb dX7_common_10 rfl (lv_at hl 2 rfl) ?_
  refine va_callv (va_runV (As := [.int 58, .int x2]) (rest := []) ⟨hx, hb, hml, hown, hg⟩ (m_X7_copy l D cI q th sz sd ss pr me ab be pi_4 le_4 sg wo 58 x2 _ hw) (cwV 2 hg (x_gV km_X7_71 ki_X7_copy kz_X7_X7_copy kn_X7 kk_X7_copy) rfl rfl rfl (by decide +kernel) ⟨Nat.le_of_ble_eq_true rfl, Nat.le_of_ble_eq_true rfl⟩) (pre7V hP hK hap [.int 58, .int x2]) rfl rfl hl.1 rfl (lv_room (Nat.le_of_ble_eq_true rfl)) dX7_common_11 ⟨Nat.zero_le _, Nat.zero_le _⟩) hS (fun _ _ h => h) (fun _ h => h) (fun  u t H locs ht hvm hw hP hz1 hk1 hS => ?_)
  obtain ⟨pi_11, le_11⟩ := u
  rw [ht] at hP; clear hz1 hk1 ht hvm
  try dsimp only at hw
  try dsimp only at hP
  obtain ⟨n14, hw⟩ := hw
  refine ml_X7_common_14 C th sz sd ss pr me ab be sg post _ ?_ n14 _ _ _ _ _ _ hw hP hS (lv_sub hl [0] rfl)
  · intro pi le wo H locs ls hw hP hS hl
    exact W.vret hx hb hr (fun t ht hW => ⟨⟨(pi, le, wo), rfl, hw, by show va_P D vwCl _ t.heap; rw [ht]; exact hP⟩, hS.F ht⟩) hS.2.2 dX7_common_51 hlocks
-- ===== ExactFilterModel.lowest
abbrev rX7_lowest : Room := { frames := 4, cells := 0, slots := 0, locals := 102 }
def wj_X7_lowest_70  (post : (Nat → Int32) → (Nat → Int32) → (Nat → Int32) → (Nat → Int32) → Prop)  (pi : Nat → Int32) (le : Nat → Int32) (sg : Nat → Int32) (wo : Nat → Int32) : Prop := post pi le sg wo
def wp_X7_lowest (pi : Nat → Int32) (le : Nat → Int32) (sg : Nat → Int32) (wo : Nat → Int32) (x1 : Int32) (post : (Nat → Int32) → (Nat → Int32) → (Nat → Int32) → (Nat → Int32) → Prop) : Prop := wp_X7_common pi le wo (2 * x1) ((2 * x1) + 1) (fun (pi_9 : Nat → Int32) (le_9 : Nat → Int32) (wo_9 : Nat → Int32) => wp_X7_divide pi_9 le_9 wo_9 (2 * x1) 59 (fun (pi_18 : Nat → Int32) (le_18 : Nat → Int32) (wo_18 : Nat → Int32) => wp_X7_copy pi_18 le_18 (2 * x1) 60 (fun (pi_27 : Nat → Int32) (le_27 : Nat → Int32) => wp_X7_divide pi_27 le_27 wo_18 ((2 * x1) + 1) 59 (fun (pi_38 : Nat → Int32) (le_38 : Nat → Int32) (wo_38 : Nat → Int32) => wp_X7_copy pi_38 le_38 ((2 * x1) + 1) 60 (fun (pi_49 : Nat → Int32) (le_49 : Nat → Int32) => vp_in (2 * x1) 64 ∧ (¬ (le_49 ((2 * x1) : Int32).toNatClampNeg) = 0 → wj_X7_lowest_70  post  pi_49 le_49 sg wo_38) ∧ ((le_49 ((2 * x1) : Int32).toNatClampNeg) = 0 → vp_in x1 24 ∧ wj_X7_lowest_70  post  pi_49 le_49 (upd sg (x1 : Int32).toNatClampNeg 0) wo_38))))))
set_option maxHeartbeats 4000000 in
set_option maxRecDepth 100000 in
theorem mj_X7_lowest_70 (C : C7 p s m args meth c D cI q cX7_lowest 2 none) (th : Int32) (sz : Int32) (sd : Int32) (ss : Int32) (pr : Int32) (me : Int32) (ab : Nat → Int32) (be : Nat → Int32) (post : (Nat → Int32) → (Nat → Int32) → (Nat → Int32) → (Nat → Int32) → Prop) 
    
    (pi : Nat → Int32) (le : Nat → Int32) (sg : Nat → Int32) (wo : Nat → Int32) (H : Heap) (locs : List Loc) (ls : Array Slot) (hw : wj_X7_lowest_70  post  pi le sg wo) (hP : va_P D vwCl (w7 cI q th sz sd ss pr me ab be pi le sg wo) H) (hS : va_S (A7 q) s.heap H locs) (hl : lv_has ls 2 []) : W p l e rX7_lowest s m args below meth c H locs 0 0 (MQ below (va_Qv (S := (Nat → Int32) × (Nat → Int32) × (Nat → Int32) × (Nat → Int32)) (fun u => post u.1 u.2.1 u.2.2.1 u.2.2.2) (fun u t => va_P D vwCl (w7 cI q th sz sd ss pr me ab be u.1 u.2.1 u.2.2.1 u.2.2.2) t.heap) (A7 q)) args s 0 0 (A7 q)) (F0 m 70 ls []) := by
  obtain ⟨hx, hb, hr, hml, hown, hg, hlocks, hK, hap⟩ := id C
  unfold wj_X7_lowest_70 at hw
  exact W.vret hx hb hr (fun t ht hW => ⟨⟨(pi, le, sg, wo), rfl, hw, by show va_P D vwCl _ t.heap; rw [ht]; exact hP⟩, hS.F ht⟩) hS.2.2 dX7_lowest_70 hlocks
set_option maxHeartbeats 4000000 in
set_option maxRecDepth 100000 in
theorem m_X7_lowest (l : Launch) (D : va_G) (cI : ClassId) (q : Nat → Nat) (th : Int32) (sz : Int32) (sd : Int32) (ss : Int32) (pr : Int32) (me : Int32) (ab : Nat → Int32) (be : Nat → Int32) (pi : Nat → Int32) (le : Nat → Int32) (sg : Nat → Int32) (wo : Nat → Int32) (x1 : Int32) (post : (Nat → Int32) → (Nat → Int32) → (Nat → Int32) → (Nat → Int32) → Prop) (hw : wp_X7_lowest pi le sg wo x1 post) : Met l yX7_lowest (wu yX7_lowest cX7_lowest 2 none) rX7_lowest (va_Pc [.ref (q 0), .int x1] (fun U => va_P D vwCl (w7 cI q th sz sd ss pr me ab be pi le sg wo) U.heap ∧ K7 D cI q U)) (va_Qv (S := (Nat → Int32) × (Nat → Int32) × (Nat → Int32) × (Nat → Int32)) (fun u => post u.1 u.2.1 u.2.2.1 u.2.2.2) (fun u t => va_P D vwCl (w7 cI q th sz sd ss pr me ab be u.1 u.2.1 u.2.2.1 u.2.2.2) t.heap) (A7 q)) 0 0 (A7 q) := by
  refine Met.ofW (cc := cX7_lowest) (maxL := 2) (ret := none) (by decide) rfl ?_
  intro p e s m args below meth c s₁ B hml hv
  obtain ⟨rfl, hP, hK, hap⟩ := hv
  have C : C7 p s m _ meth c D cI q cX7_lowest 2 none := ⟨B.exec, B.bytes, B.returns, hml, findClass_of_methodNamed B.named, x_hg (atoms_spec (ws := wu yX7_lowest cX7_lowest 2 none) B.pre), B.notSynchronized, hK, hap⟩
  obtain ⟨hx, hb, hr, hml, hown, hg, hlocks, hK, hap⟩ := id C
  have hS : va_S (A7 q) s.heap s.heap [] := va_S.rf
  have hl := lv_entry ([.ref (q 0), .int x1]) (n := 2) (Nat.le_of_ble_eq_true rfl)
  rw [lg_entry_eq]
  generalize (lg_sl ([.ref (q 0), .int x1]) ++ List.replicate (2 - (lg_sl ([.ref (q 0), .int x1])).length) Slot.unset).toArray = ls at hl ⊢
  have hl : lv_has ls 2 [(0, .ref (q 0)), (1, .int x1)] := hl
  unfold wp_X7_lowest at hw
  refine lv_aload_n hx hb dX7_lowest_0 rfl (lv_at hl 0 rfl) ?_
  refine lv_iconst (v := 2) hx hb dX7_lowest_1 (by decide) ?_
  refine lv_iload_n hx hb dX7_lowest_2 rfl (lv_at hl 1 rfl) ?_
  refine lv_imul hx hb dX7_lowest_3 ?_
  refine lv_iconst (v := 2) hx hb dX7_lowest_4 (by decide) ?_
  refine lv_iload_n hx hb dX7_lowest_5 rfl (lv_at hl 1 rfl) ?_
  refine lv_imul hx hb dX7_lowest_6 ?_
  refine lv_iconst (v := 1) hx hb dX7_lowest_7 (by decide) ?_
  refine lv_iadd hx hb dX7_lowest_8 ?_
  refine va_callv (va_runV (As := [.int (2 * x1), .int ((2 * x1) + 1)]) (rest := []) ⟨hx, hb, hml, hown, hg⟩ (m_X7_common l D cI q th sz sd ss pr me ab be pi le sg wo (2 * x1) ((2 * x1) + 1) _ hw) (cwV 2 hg (x_gV km_X7_96 ki_X7_common kz_X7_X7_common kn_X7 kk_X7_common) rfl rfl rfl (by decide +kernel) ⟨Nat.le_of_ble_eq_true rfl, Nat.le_of_ble_eq_true rfl⟩) (pre7V hP hK hap [.int (2 * x1), .int ((2 * x1) + 1)]) rfl rfl hl.1 rfl (lv_room (Nat.le_of_ble_eq_true rfl)) dX7_lowest_9 ⟨Nat.zero_le _, Nat.zero_le _⟩) hS (fun _ _ h => h) (fun _ h => h) (fun  u t H locs ht hvm hw hP hz1 hk1 hS => ?_)
  obtain ⟨pi_9, le_9, wo_9⟩ := u
  rw [ht] at hP; clear hz1 hk1 ht hvm
  try dsimp only at hw
  try dsimp only at hP
  refine lv_aload_n hx hb dX7_lowest_12 rfl (lv_at hl 0 rfl) ?_
  refine lv_iconst (v := 2) hx hb dX7_lowest_13 (by decide) ?_
  refine lv_iload_n hx hb dX7_lowest_14 rfl (lv_at hl 1 rfl) ?_
  refine lv_imul hx hb dX7_lowest_15 ?_
  refine lv_bipush (v := 59) hx hb dX7_lowest_16 (by decide) ?_
  refine va_callv (va_runV (As := [.int (2 * x1), .int 59]) (rest := []) ⟨hx, hb, hml, hown, hg⟩ (m_X7_divide l D cI q th sz sd ss pr me ab be pi_9 le_9 sg wo_9 (2 * x1) 59 _ hw) (cwV 2 hg (x_gV km_X7_93 ki_X7_divide kz_X7_X7_divide kn_X7 kk_X7_divide) rfl rfl rfl (by decide +kernel) ⟨Nat.le_of_ble_eq_true rfl, Nat.le_of_ble_eq_true rfl⟩) (pre7V hP hK hap [.int (2 * x1), .int 59]) rfl rfl hl.1 rfl (lv_room (Nat.le_of_ble_eq_true rfl)) dX7_lowest_18 ⟨Nat.zero_le _, Nat.zero_le _⟩) hS (fun _ _ h => h) (fun _ h => h) (fun  u t H locs ht hvm hw hP hz1 hk1 hS => ?_)
  obtain ⟨pi_18, le_18, wo_18⟩ := u
  rw [ht] at hP; clear hz1 hk1 ht hvm
  try dsimp only at hw
  try dsimp only at hP
  refine lv_aload_n hx hb dX7_lowest_21 rfl (lv_at hl 0 rfl) ?_
  refine lv_iconst (v := 2) hx hb dX7_lowest_22 (by decide) ?_
  refine lv_iload_n hx hb dX7_lowest_23 rfl (lv_at hl 1 rfl) ?_
  refine lv_imul hx hb dX7_lowest_24 ?_
  refine lv_bipush (v := 60) hx hb dX7_lowest_25 (by decide) ?_
  refine va_callv (va_runV (As := [.int (2 * x1), .int 60]) (rest := []) ⟨hx, hb, hml, hown, hg⟩ (m_X7_copy l D cI q th sz sd ss pr me ab be pi_18 le_18 sg wo_18 (2 * x1) 60 _ hw) (cwV 2 hg (x_gV km_X7_71 ki_X7_copy kz_X7_X7_copy kn_X7 kk_X7_copy) rfl rfl rfl (by decide +kernel) ⟨Nat.le_of_ble_eq_true rfl, Nat.le_of_ble_eq_true rfl⟩) (pre7V hP hK hap [.int (2 * x1), .int 60]) rfl rfl hl.1 rfl (lv_room (Nat.le_of_ble_eq_true rfl)) dX7_lowest_27 ⟨Nat.zero_le _, Nat.zero_le _⟩) hS (fun _ _ h => h) (fun _ h => h) (fun  u t H locs ht hvm hw hP hz1 hk1 hS => ?_)
  obtain ⟨pi_27, le_27⟩ := u
  rw [ht] at hP; clear hz1 hk1 ht hvm
  try dsimp only at hw
  try dsimp only at hP
  refine lv_aload_n hx hb dX7_lowest_30 rfl (lv_at hl 0 rfl) ?_
  refine lv_iconst (v := 2) hx hb dX7_lowest_31 (by decide) ?_
  refine lv_iload_n hx hb dX7_lowest_32 rfl (lv_at hl 1 rfl) ?_
  refine lv_imul hx hb dX7_lowest_33 ?_
  refine lv_iconst (v := 1) hx hb dX7_lowest_34 (by decide) ?_
  refine lv_iadd hx hb dX7_lowest_35 ?_
  refine lv_bipush (v := 59) hx hb dX7_lowest_36 (by decide) ?_
  refine va_callv (va_runV (As := [.int ((2 * x1) + 1), .int 59]) (rest := []) ⟨hx, hb, hml, hown, hg⟩ (m_X7_divide l D cI q th sz sd ss pr me ab be pi_27 le_27 sg wo_18 ((2 * x1) + 1) 59 _ hw) (cwV 2 hg (x_gV km_X7_93 ki_X7_divide kz_X7_X7_divide kn_X7 kk_X7_divide) rfl rfl rfl (by decide +kernel) ⟨Nat.le_of_ble_eq_true rfl, Nat.le_of_ble_eq_true rfl⟩) (pre7V hP hK hap [.int ((2 * x1) + 1), .int 59]) rfl rfl hl.1 rfl (lv_room (Nat.le_of_ble_eq_true rfl)) dX7_lowest_38 ⟨Nat.zero_le _, Nat.zero_le _⟩) hS (fun _ _ h => h) (fun _ h => h) (fun  u t H locs ht hvm hw hP hz1 hk1 hS => ?_)
  obtain ⟨pi_38, le_38, wo_38⟩ := u
  rw [ht] at hP; clear hz1 hk1 ht hvm
  try dsimp only at hw
  try dsimp only at hP
  refine lv_aload_n hx hb dX7_lowest_41 rfl (lv_at hl 0 rfl) ?_
  refine lv_iconst (v := 2) hx hb dX7_lowest_42 (by decide) ?_
  refine lv_iload_n hx hb dX7_lowest_43 rfl (lv_at hl 1 rfl) ?_
  refine lv_imul hx hb dX7_lowest_44 ?_
  refine lv_iconst (v := 1) hx hb dX7_lowest_45 (by decide) ?_
  refine lv_iadd hx hb dX7_lowest_46 ?_
  refine lv_bipush (v := 60) hx hb dX7_lowest_47 (by decide) ?_
  refine va_callv (va_runV (As := [.int ((2 * x1) + 1), .int 60]) (rest := []) ⟨hx, hb, hml, hown, hg⟩ (m_X7_copy l D cI q th sz sd ss pr me ab be pi_38 le_38 sg wo_38 ((2 * x1) + 1) 60 _ hw) (cwV 2 hg (x_gV km_X7_71 ki_X7_copy kz_X7_X7_copy kn_X7 kk_X7_copy) rfl rfl rfl (by decide +kernel) ⟨Nat.le_of_ble_eq_true rfl, Nat.le_of_ble_eq_true rfl⟩) (pre7V hP hK hap [.int ((2 * x1) + 1), .int 60]) rfl rfl hl.1 rfl (lv_room (Nat.le_of_ble_eq_true rfl)) dX7_lowest_49 ⟨Nat.zero_le _, Nat.zero_le _⟩) hS (fun _ _ h => h) (fun _ h => h) (fun  u t H locs ht hvm hw hP hz1 hk1 hS => ?_)
  obtain ⟨pi_49, le_49⟩ := u
  rw [ht] at hP; clear hz1 hk1 ht hvm
  try dsimp only at hw
  try dsimp only at hP
  refine lv_aload_n hx hb dX7_lowest_52 rfl (lv_at hl 0 rfl) ?_
  refine va_get (D := D) (ci := 7) (v := .ref (q 4)) (C := RX7) (T := TX7) (N := 12) hx hb hg ku_X7 hown hK hP 0 rfl rfl 9 (by decide) (hg _ kf_X7_40) (fun _ h9 => h9) rfl dX7_lowest_53 ?_
  refine lv_iconst (v := 2) hx hb dX7_lowest_56 (by decide) ?_
  refine lv_iload_n hx hb dX7_lowest_57 rfl (lv_at hl 1 rfl) ?_
  refine lv_imul hx hb dX7_lowest_58 ?_
  obtain ⟨hi59, hw⟩ := hw
  refine va_iald (D := D) hx hb hK hP 4 0 rfl rfl hi59 dX7_lowest_59 ?_
  refine lv_if_ne (tgt := 70) hx hb dX7_lowest_60 (by decide) (fun hc60 => ?_) (fun hc60 => ?_)
  · have hw := hw.1 hc60
    exact mj_X7_lowest_70 C th sz sd ss pr me ab be post  _ _ _ _ _ _ _ hw hP hS (lv_sub hl [] rfl)
  · have hw := hw.2 hc60
    refine lv_aload_n hx hb dX7_lowest_63 rfl (lv_at hl 0 rfl) ?_
    refine va_get (D := D) (ci := 7) (v := .ref (q 5)) (C := RX7) (T := TX7) (N := 12) hx hb hg ku_X7 hown hK hP 0 rfl rfl 10 (by decide) (hg _ kf_X7_43) (fun _ h9 => h9) rfl dX7_lowest_64 ?_
    refine lv_iload_n hx hb dX7_lowest_67 rfl (lv_at hl 1 rfl) ?_
    refine lv_iconst (v := 0) hx hb dX7_lowest_68 (by decide) ?_
    obtain ⟨hi69, hw⟩ := hw
    refine va_iast (D := D) hx hb hK hP (D7 hap) hS 5 0 rfl rfl hi69 dX7_lowest_69 (fun H locs hP _ hS => ?_)
    have hP : va_P D vwCl (w7 cI q th sz sd ss pr me ab be pi_49 le_49 (upd sg (x1 : Int32).toNatClampNeg 0) wo_38) H := hP
    exact mj_X7_lowest_70 C th sz sd ss pr me ab be post  _ _ _ _ _ _ _ hw hP hS (lv_sub hl [] rfl)
-- ===== ExactFilterModel.fraction
abbrev rX7_fraction : Room := { frames := 5, cells := 0, slots := 0, locals := 123 }
def wj_X7_fraction_37  (post : (Nat → Int32) → (Nat → Int32) → (Nat → Int32) → (Nat → Int32) → Prop)  (pi : Nat → Int32) (le : Nat → Int32) (sg : Nat → Int32) (wo : Nat → Int32) (x1 : Int32) (x3 : Int32) (s1 : Int32) (s2 : Int32) : Prop := wp_X7_small pi le wo s1 s2 (fun (pi_37 : Nat → Int32) (le_37 : Nat → Int32) (wo_37 : Nat → Int32) => wp_X7_small pi_37 le_37 wo_37 ((2 * x1) + 1) x3 (fun (pi_47 : Nat → Int32) (le_47 : Nat → Int32) (wo_47 : Nat → Int32) => wp_X7_lowest pi_47 le_47 sg wo_47 x1 (fun (pi_52 : Nat → Int32) (le_52 : Nat → Int32) (sg_52 : Nat → Int32) (wo_52 : Nat → Int32) => post pi_52 le_52 sg_52 wo_52)))
def wj_X7_fraction_22  (post : (Nat → Int32) → (Nat → Int32) → (Nat → Int32) → (Nat → Int32) → Prop)  (pi : Nat → Int32) (le : Nat → Int32) (sg : Nat → Int32) (wo : Nat → Int32) (x1 : Int32) (x2 : Int32) (x3 : Int32) (s1 : Int32) (s2 : Int32) : Prop := vp_in s1 24 ∧ (0 ≤ x2 → wj_X7_fraction_37  post  pi le (upd sg (s1 : Int32).toNatClampNeg s2) wo x1 x3 (2 * x1) x2) ∧ (¬ 0 ≤ x2 → wj_X7_fraction_37  post  pi le (upd sg (s1 : Int32).toNatClampNeg s2) wo x1 x3 (2 * x1) (-x2))
def wp_X7_fraction (pi : Nat → Int32) (le : Nat → Int32) (sg : Nat → Int32) (wo : Nat → Int32) (x1 : Int32) (x2 : Int32) (x3 : Int32) (post : (Nat → Int32) → (Nat → Int32) → (Nat → Int32) → (Nat → Int32) → Prop) : Prop := (0 ≤ x2 → (x2 ≤ 0 → wj_X7_fraction_22  post  pi le sg wo x1 x2 x3 x1 0) ∧ (¬ x2 ≤ 0 → wj_X7_fraction_22  post  pi le sg wo x1 x2 x3 x1 1)) ∧ (¬ 0 ≤ x2 → wj_X7_fraction_22  post  pi le sg wo x1 x2 x3 x1 (-1))
set_option maxHeartbeats 4000000 in
set_option maxRecDepth 100000 in
theorem mj_X7_fraction_37 (C : C7 p s m args meth c D cI q cX7_fraction 4 none) (th : Int32) (sz : Int32) (sd : Int32) (ss : Int32) (pr : Int32) (me : Int32) (ab : Nat → Int32) (be : Nat → Int32) (post : (Nat → Int32) → (Nat → Int32) → (Nat → Int32) → (Nat → Int32) → Prop) 
    
    (pi : Nat → Int32) (le : Nat → Int32) (sg : Nat → Int32) (wo : Nat → Int32) (x1 : Int32) (x3 : Int32) (s1 : Int32) (s2 : Int32) (H : Heap) (locs : List Loc) (ls : Array Slot) (hw : wj_X7_fraction_37  post  pi le sg wo x1 x3 s1 s2) (hP : va_P D vwCl (w7 cI q th sz sd ss pr me ab be pi le sg wo) H) (hS : va_S (A7 q) s.heap H locs) (hl : lv_has ls 4 [(0, .ref (q 0)), (1, .int x1), (3, .int x3)]) : W p l e rX7_fraction s m args below meth c H locs 0 0 (MQ below (va_Qv (S := (Nat → Int32) × (Nat → Int32) × (Nat → Int32) × (Nat → Int32)) (fun u => post u.1 u.2.1 u.2.2.1 u.2.2.2) (fun u t => va_P D vwCl (w7 cI q th sz sd ss pr me ab be u.1 u.2.1 u.2.2.1 u.2.2.2) t.heap) (A7 q)) args s 0 0 (A7 q)) (F0 m 37 ls [.int s2, .int s1, .ref (q 0)]) := by
  obtain ⟨hx, hb, hr, hml, hown, hg, hlocks, hK, hap⟩ := id C
  unfold wj_X7_fraction_37 at hw
  refine va_callv (va_runV (As := [.int s1, .int s2]) (rest := []) ⟨hx, hb, hml, hown, hg⟩ (m_X7_small l D cI q th sz sd ss pr me ab be pi le sg wo s1 s2 _ hw) (cwV 2 hg (x_gV km_X7_99 ki_X7_small kz_X7_X7_small kn_X7 kk_X7_small) rfl rfl rfl (by decide +kernel) ⟨Nat.le_of_ble_eq_true rfl, Nat.le_of_ble_eq_true rfl⟩) (pre7V hP hK hap [.int s1, .int s2]) rfl rfl hl.1 rfl (lv_room (Nat.le_of_ble_eq_true rfl)) dX7_fraction_37 ⟨Nat.zero_le _, Nat.zero_le _⟩) hS (fun _ _ h => h) (fun _ h => h) (fun  u t H locs ht hvm hw hP hz1 hk1 hS => ?_)
  obtain ⟨pi_37, le_37, wo_37⟩ := u
  rw [ht] at hP; clear hz1 hk1 ht hvm
  try dsimp only at hw
  try dsimp only at hP
  refine lv_aload_n hx hb dX7_fraction_40 rfl (lv_at hl 0 rfl) ?_
  refine lv_iconst (v := 2) hx hb dX7_fraction_41 (by decide) ?_
  refine lv_iload_n hx hb dX7_fraction_42 rfl (lv_at hl 1 rfl) ?_
  refine lv_imul hx hb dX7_fraction_43 ?_
  refine lv_iconst (v := 1) hx hb dX7_fraction_44 (by decide) ?_
  refine lv_iadd hx hb dX7_fraction_45 ?_
  refine lv_iload_n hx hb dX7_fraction_46 rfl (lv_at hl 2 rfl) ?_
  refine va_callv (va_runV (As := [.int ((2 * x1) + 1), .int x3]) (rest := []) ⟨hx, hb, hml, hown, hg⟩ (m_X7_small l D cI q th sz sd ss pr me ab be pi_37 le_37 sg wo_37 ((2 * x1) + 1) x3 _ hw) (cwV 2 hg (x_gV km_X7_99 ki_X7_small kz_X7_X7_small kn_X7 kk_X7_small) rfl rfl rfl (by decide +kernel) ⟨Nat.le_of_ble_eq_true rfl, Nat.le_of_ble_eq_true rfl⟩) (pre7V hP hK hap [.int ((2 * x1) + 1), .int x3]) rfl rfl hl.1 rfl (lv_room (Nat.le_of_ble_eq_true rfl)) dX7_fraction_47 ⟨Nat.zero_le _, Nat.zero_le _⟩) hS (fun _ _ h => h) (fun _ h => h) (fun  u t H locs ht hvm hw hP hz1 hk1 hS => ?_)
  obtain ⟨pi_47, le_47, wo_47⟩ := u
  rw [ht] at hP; clear hz1 hk1 ht hvm
  try dsimp only at hw
  try dsimp only at hP
  refine lv_aload_n hx hb dX7_fraction_50 rfl (lv_at hl 0 rfl) ?_
  refine lv_iload_n hx hb dX7_fraction_51 rfl (lv_at hl 1 rfl) ?_
  refine va_callv (va_runV (As := [.int x1]) (rest := []) ⟨hx, hb, hml, hown, hg⟩ (m_X7_lowest l D cI q th sz sd ss pr me ab be pi_47 le_47 sg wo_47 x1 _ hw) (cwV 1 hg (x_gV km_X7_102 ki_X7_lowest kz_X7_X7_lowest kn_X7 kk_X7_lowest) rfl rfl rfl (by decide +kernel) ⟨Nat.le_of_ble_eq_true rfl, Nat.le_of_ble_eq_true rfl⟩) (pre7V hP hK hap [.int x1]) rfl rfl hl.1 rfl (lv_room (Nat.le_of_ble_eq_true rfl)) dX7_fraction_52 ⟨Nat.zero_le _, Nat.zero_le _⟩) hS (fun _ _ h => h) (fun _ h => h) (fun  u t H locs ht hvm hw hP hz1 hk1 hS => ?_)
  obtain ⟨pi_52, le_52, sg_52, wo_52⟩ := u
  rw [ht] at hP; clear hz1 hk1 ht hvm
  try dsimp only at hw
  try dsimp only at hP
  exact W.vret hx hb hr (fun t ht hW => ⟨⟨(pi_52, le_52, sg_52, wo_52), rfl, hw, by show va_P D vwCl _ t.heap; rw [ht]; exact hP⟩, hS.F ht⟩) hS.2.2 dX7_fraction_55 hlocks
set_option maxHeartbeats 4000000 in
set_option maxRecDepth 100000 in
theorem mj_X7_fraction_22 (C : C7 p s m args meth c D cI q cX7_fraction 4 none) (th : Int32) (sz : Int32) (sd : Int32) (ss : Int32) (pr : Int32) (me : Int32) (ab : Nat → Int32) (be : Nat → Int32) (post : (Nat → Int32) → (Nat → Int32) → (Nat → Int32) → (Nat → Int32) → Prop) 
    
    (pi : Nat → Int32) (le : Nat → Int32) (sg : Nat → Int32) (wo : Nat → Int32) (x1 : Int32) (x2 : Int32) (x3 : Int32) (s1 : Int32) (s2 : Int32) (H : Heap) (locs : List Loc) (ls : Array Slot) (hw : wj_X7_fraction_22  post  pi le sg wo x1 x2 x3 s1 s2) (hP : va_P D vwCl (w7 cI q th sz sd ss pr me ab be pi le sg wo) H) (hS : va_S (A7 q) s.heap H locs) (hl : lv_has ls 4 [(0, .ref (q 0)), (1, .int x1), (2, .int x2), (3, .int x3)]) : W p l e rX7_fraction s m args below meth c H locs 0 0 (MQ below (va_Qv (S := (Nat → Int32) × (Nat → Int32) × (Nat → Int32) × (Nat → Int32)) (fun u => post u.1 u.2.1 u.2.2.1 u.2.2.2) (fun u t => va_P D vwCl (w7 cI q th sz sd ss pr me ab be u.1 u.2.1 u.2.2.1 u.2.2.2) t.heap) (A7 q)) args s 0 0 (A7 q)) (F0 m 22 ls [.int s2, .int s1, .ref (q 5)]) := by
  obtain ⟨hx, hb, hr, hml, hown, hg, hlocks, hK, hap⟩ := id C
  unfold wj_X7_fraction_22 at hw
  obtain ⟨hi22, hw⟩ := hw
  refine va_iast (D := D) hx hb hK hP (D7 hap) hS 5 0 rfl rfl hi22 dX7_fraction_22 (fun H locs hP _ hS => ?_)
  have hP : va_P D vwCl (w7 cI q th sz sd ss pr me ab be pi le (upd sg (s1 : Int32).toNatClampNeg s2) wo) H := hP
  refine lv_aload_n hx hb dX7_fraction_23 rfl (lv_at hl 0 rfl) ?_
  refine lv_iconst (v := 2) hx hb dX7_fraction_24 (by decide) ?_
  refine lv_iload_n hx hb dX7_fraction_25 rfl (lv_at hl 1 rfl) ?_
  refine lv_imul hx hb dX7_fraction_26 ?_
  refine lv_iload_n hx hb dX7_fraction_27 rfl (lv_at hl 2 rfl) ?_
  refine lv_if_ge (tgt := 36) hx hb dX7_fraction_28 (by decide) (fun hc28 => ?_) (fun hc28 => ?_)
  · have hw := hw.1 hc28
    refine lv_iload_n hx hb dX7_fraction_36 rfl (lv_at hl 2 rfl) ?_
    exact mj_X7_fraction_37 C th sz sd ss pr me ab be post  _ _ _ _ _ _ _ _ _ _ _ hw hP hS (lv_sub hl [0, 1, 3] rfl)
  · have hw := hw.2 hc28
    refine lv_iload_n hx hb dX7_fraction_31 rfl (lv_at hl 2 rfl) ?_
    refine lv_ineg hx hb dX7_fraction_32 ?_
    refine lv_goto (tgt := 37) hx hb dX7_fraction_33 (by decide) ?_
    exact mj_X7_fraction_37 C th sz sd ss pr me ab be post  _ _ _ _ _ _ _ _ _ _ _ hw hP hS (lv_sub hl [0, 1, 3] rfl)
set_option maxHeartbeats 4000000 in
set_option maxRecDepth 100000 in
theorem m_X7_fraction (l : Launch) (D : va_G) (cI : ClassId) (q : Nat → Nat) (th : Int32) (sz : Int32) (sd : Int32) (ss : Int32) (pr : Int32) (me : Int32) (ab : Nat → Int32) (be : Nat → Int32) (pi : Nat → Int32) (le : Nat → Int32) (sg : Nat → Int32) (wo : Nat → Int32) (x1 : Int32) (x2 : Int32) (x3 : Int32) (post : (Nat → Int32) → (Nat → Int32) → (Nat → Int32) → (Nat → Int32) → Prop) (hw : wp_X7_fraction pi le sg wo x1 x2 x3 post) : Met l yX7_fraction (wu yX7_fraction cX7_fraction 4 none) rX7_fraction (va_Pc [.ref (q 0), .int x1, .int x2, .int x3] (fun U => va_P D vwCl (w7 cI q th sz sd ss pr me ab be pi le sg wo) U.heap ∧ K7 D cI q U)) (va_Qv (S := (Nat → Int32) × (Nat → Int32) × (Nat → Int32) × (Nat → Int32)) (fun u => post u.1 u.2.1 u.2.2.1 u.2.2.2) (fun u t => va_P D vwCl (w7 cI q th sz sd ss pr me ab be u.1 u.2.1 u.2.2.1 u.2.2.2) t.heap) (A7 q)) 0 0 (A7 q) := by
  refine Met.ofW (cc := cX7_fraction) (maxL := 4) (ret := none) (by decide) rfl ?_
  intro p e s m args below meth c s₁ B hml hv
  obtain ⟨rfl, hP, hK, hap⟩ := hv
  have C : C7 p s m _ meth c D cI q cX7_fraction 4 none := ⟨B.exec, B.bytes, B.returns, hml, findClass_of_methodNamed B.named, x_hg (atoms_spec (ws := wu yX7_fraction cX7_fraction 4 none) B.pre), B.notSynchronized, hK, hap⟩
  obtain ⟨hx, hb, hr, hml, hown, hg, hlocks, hK, hap⟩ := id C
  have hS : va_S (A7 q) s.heap s.heap [] := va_S.rf
  have hl := lv_entry ([.ref (q 0), .int x1, .int x2, .int x3]) (n := 4) (Nat.le_of_ble_eq_true rfl)
  rw [lg_entry_eq]
  generalize (lg_sl ([.ref (q 0), .int x1, .int x2, .int x3]) ++ List.replicate (4 - (lg_sl ([.ref (q 0), .int x1, .int x2, .int x3])).length) Slot.unset).toArray = ls at hl ⊢
  have hl : lv_has ls 4 [(0, .ref (q 0)), (1, .int x1), (2, .int x2), (3, .int x3)] := hl
  unfold wp_X7_fraction at hw
  refine lv_aload_n hx hb dX7_fraction_0 rfl (lv_at hl 0 rfl) ?_
  refine va_get (D := D) (ci := 7) (v := .ref (q 5)) (C := RX7) (T := TX7) (N := 12) hx hb hg ku_X7 hown hK hP 0 rfl rfl 10 (by decide) (hg _ kf_X7_43) (fun _ h9 => h9) rfl dX7_fraction_1 ?_
  refine lv_iload_n hx hb dX7_fraction_4 rfl (lv_at hl 1 rfl) ?_
  refine lv_iload_n hx hb dX7_fraction_5 rfl (lv_at hl 2 rfl) ?_
  refine lv_if_ge (tgt := 13) hx hb dX7_fraction_6 (by decide) (fun hc6 => ?_) (fun hc6 => ?_)
  · have hw := hw.1 hc6
    refine lv_iload_n hx hb dX7_fraction_13 rfl (lv_at hl 2 rfl) ?_
    refine lv_if_le (tgt := 21) hx hb dX7_fraction_14 (by decide) (fun hc14 => ?_) (fun hc14 => ?_)
    · have hw := hw.1 hc14
      refine lv_iconst (v := 0) hx hb dX7_fraction_21 (by decide) ?_
      exact mj_X7_fraction_22 C th sz sd ss pr me ab be post  _ _ _ _ _ _ _ _ _ _ _ _ hw hP hS (lv_sub hl [0, 1, 2, 3] rfl)
    · have hw := hw.2 hc14
      refine lv_iconst (v := 1) hx hb dX7_fraction_17 (by decide) ?_
      refine lv_goto (tgt := 22) hx hb dX7_fraction_18 (by decide) ?_
      exact mj_X7_fraction_22 C th sz sd ss pr me ab be post  _ _ _ _ _ _ _ _ _ _ _ _ hw hP hS (lv_sub hl [0, 1, 2, 3] rfl)
  · have hw := hw.2 hc6
    refine lv_iconst (v := (-1)) hx hb dX7_fraction_9 (by decide) ?_
    refine lv_goto (tgt := 22) hx hb dX7_fraction_10 (by decide) ?_
    exact mj_X7_fraction_22 C th sz sd ss pr me ab be post  _ _ _ _ _ _ _ _ _ _ _ _ hw hP hS (lv_sub hl [0, 1, 2, 3] rfl)
-- ===== ExactFilterModel.model
abbrev rX7_model : Room := { frames := 6, cells := 0, slots := 0, locals := 146 }
def wp_X7_model (ab : Nat → Int32) (be : Nat → Int32) (pi : Nat → Int32) (le : Nat → Int32) (sg : Nat → Int32) (wo : Nat → Int32) (x1 : Int32) (x2 : Int32) (x3 : Int32) (x4 : Int32) (post : (Nat → Int32) → (Nat → Int32) → (Nat → Int32) → (Nat → Int32) → Prop) : Prop := wp_X7_at  x2 x3 x4 (fun (r_10 : Int32) => vp_in r_10 40 ∧ wp_X7_at  x2 x3 x4 (fun (r_22 : Int32) => vp_in r_22 40 ∧ wp_X7_fraction pi le sg wo x1 (ab (r_10 : Int32).toNatClampNeg) (be (r_22 : Int32).toNatClampNeg) (fun (pi_26 : Nat → Int32) (le_26 : Nat → Int32) (sg_26 : Nat → Int32) (wo_26 : Nat → Int32) => post pi_26 le_26 sg_26 wo_26)))
set_option maxHeartbeats 4000000 in
set_option maxRecDepth 100000 in
theorem m_X7_model (l : Launch) (D : va_G) (cI : ClassId) (q : Nat → Nat) (th : Int32) (sz : Int32) (sd : Int32) (ss : Int32) (pr : Int32) (me : Int32) (ab : Nat → Int32) (be : Nat → Int32) (pi : Nat → Int32) (le : Nat → Int32) (sg : Nat → Int32) (wo : Nat → Int32) (x1 : Int32) (x2 : Int32) (x3 : Int32) (x4 : Int32) (post : (Nat → Int32) → (Nat → Int32) → (Nat → Int32) → (Nat → Int32) → Prop) (hw : wp_X7_model ab be pi le sg wo x1 x2 x3 x4 post) : Met l yX7_model (wu yX7_model cX7_model 5 none) rX7_model (va_Pc [.ref (q 0), .int x1, .int x2, .int x3, .int x4] (fun U => va_P D vwCl (w7 cI q th sz sd ss pr me ab be pi le sg wo) U.heap ∧ K7 D cI q U)) (va_Qv (S := (Nat → Int32) × (Nat → Int32) × (Nat → Int32) × (Nat → Int32)) (fun u => post u.1 u.2.1 u.2.2.1 u.2.2.2) (fun u t => va_P D vwCl (w7 cI q th sz sd ss pr me ab be u.1 u.2.1 u.2.2.1 u.2.2.2) t.heap) (A7 q)) 0 0 (A7 q) := by
  refine Met.ofW (cc := cX7_model) (maxL := 5) (ret := none) (by decide) rfl ?_
  intro p e s m args below meth c s₁ B hml hv
  obtain ⟨rfl, hP, hK, hap⟩ := hv
  have C : C7 p s m _ meth c D cI q cX7_model 5 none := ⟨B.exec, B.bytes, B.returns, hml, findClass_of_methodNamed B.named, x_hg (atoms_spec (ws := wu yX7_model cX7_model 5 none) B.pre), B.notSynchronized, hK, hap⟩
  obtain ⟨hx, hb, hr, hml, hown, hg, hlocks, hK, hap⟩ := id C
  have hS : va_S (A7 q) s.heap s.heap [] := va_S.rf
  have hl := lv_entry ([.ref (q 0), .int x1, .int x2, .int x3, .int x4]) (n := 5) (Nat.le_of_ble_eq_true rfl)
  rw [lg_entry_eq]
  generalize (lg_sl ([.ref (q 0), .int x1, .int x2, .int x3, .int x4]) ++ List.replicate (5 - (lg_sl ([.ref (q 0), .int x1, .int x2, .int x3, .int x4])).length) Slot.unset).toArray = ls at hl ⊢
  have hl : lv_has ls 5 [(0, .ref (q 0)), (1, .int x1), (2, .int x2), (3, .int x3), (4, .int x4)] := hl
  unfold wp_X7_model at hw
  refine lv_aload_n hx hb dX7_model_0 rfl (lv_at hl 0 rfl) ?_
  refine lv_iload_n hx hb dX7_model_1 rfl (lv_at hl 1 rfl) ?_
  refine lv_aload_n hx hb dX7_model_2 rfl (lv_at hl 0 rfl) ?_
  refine va_get (D := D) (ci := 7) (v := .ref (q 1)) (C := RX7) (T := TX7) (N := 12) hx hb hg ku_X7 hown hK hP 0 rfl rfl 2 (by decide) (hg _ kf_X7_16) (fun _ h9 => h9) rfl dX7_model_3 ?_
  refine lv_iload_n hx hb dX7_model_6 rfl (lv_at hl 2 rfl) ?_
  refine lv_iload_n hx hb dX7_model_7 rfl (lv_at hl 3 rfl) ?_
  refine lv_iload hx hb dX7_model_8 (lv_at hl 4 rfl) ?_
  refine va_calli (va_runS (As := [.int x2, .int x3, .int x4]) (rest := [.ref (q 1), .int x1, .ref (q 0)]) ⟨hx, hb, hml, hown, hg⟩ (m_X7_at l x2 x3 x4 _ hw) (va_cwS 3 hg (x_gS km_X7_53 ks_X7_at kn_X7 kk_X7_at) rfl rfl rfl (by decide +kernel) ⟨Nat.le_of_ble_eq_true rfl, Nat.le_of_ble_eq_true rfl⟩) pre7S rfl rfl hl.1 rfl (lv_room (Nat.le_of_ble_eq_true rfl)) dX7_model_10 ⟨Nat.zero_le _, Nat.zero_le _⟩) hS (fun _ _ h => h.elim) (fun _ h => h.elim) (fun r_10 u t H1 locs1 ht hvm hw hB hz1 hk1 hS => ?_)
  have hP := hP.kept (fun k9 q9 h9 => hk1 q9.1 ((hP k9 q9 h9).lt) (fun z => z.elim))
  clear hB; generalize H1 = H at hP hS ⊢; generalize locs1 = locs at hS ⊢; try dsimp only at hw
  obtain ⟨hi13, hw⟩ := hw
  refine va_iald (D := D) hx hb hK hP 1 0 rfl rfl hi13 dX7_model_13 ?_
  refine lv_aload_n hx hb dX7_model_14 rfl (lv_at hl 0 rfl) ?_
  refine va_get (D := D) (ci := 7) (v := .ref (q 2)) (C := RX7) (T := TX7) (N := 12) hx hb hg ku_X7 hown hK hP 0 rfl rfl 3 (by decide) (hg _ kf_X7_20) (fun _ h9 => h9) rfl dX7_model_15 ?_
  refine lv_iload_n hx hb dX7_model_18 rfl (lv_at hl 2 rfl) ?_
  refine lv_iload_n hx hb dX7_model_19 rfl (lv_at hl 3 rfl) ?_
  refine lv_iload hx hb dX7_model_20 (lv_at hl 4 rfl) ?_
  refine va_calli (va_runS (As := [.int x2, .int x3, .int x4]) (rest := [.ref (q 2), .int (ab (r_10 : Int32).toNatClampNeg), .int x1, .ref (q 0)]) ⟨hx, hb, hml, hown, hg⟩ (m_X7_at l x2 x3 x4 _ hw) (va_cwS 3 hg (x_gS km_X7_53 ks_X7_at kn_X7 kk_X7_at) rfl rfl rfl (by decide +kernel) ⟨Nat.le_of_ble_eq_true rfl, Nat.le_of_ble_eq_true rfl⟩) pre7S rfl rfl hl.1 rfl (lv_room (Nat.le_of_ble_eq_true rfl)) dX7_model_22 ⟨Nat.zero_le _, Nat.zero_le _⟩) hS (fun _ _ h => h.elim) (fun _ h => h.elim) (fun r_22 u t H1 locs1 ht hvm hw hB hz1 hk1 hS => ?_)
  have hP := hP.kept (fun k9 q9 h9 => hk1 q9.1 ((hP k9 q9 h9).lt) (fun z => z.elim))
  clear hB; generalize H1 = H at hP hS ⊢; generalize locs1 = locs at hS ⊢; try dsimp only at hw
  obtain ⟨hi25, hw⟩ := hw
  refine va_iald (D := D) hx hb hK hP 2 0 rfl rfl hi25 dX7_model_25 ?_
  refine va_callv (va_runV (As := [.int x1, .int (ab (r_10 : Int32).toNatClampNeg), .int (be (r_22 : Int32).toNatClampNeg)]) (rest := []) ⟨hx, hb, hml, hown, hg⟩ (m_X7_fraction l D cI q th sz sd ss pr me ab be pi le sg wo x1 (ab (r_10 : Int32).toNatClampNeg) (be (r_22 : Int32).toNatClampNeg) _ hw) (cwV 3 hg (x_gV km_X7_105 ki_X7_fraction kz_X7_X7_fraction kn_X7 kk_X7_fraction) rfl rfl rfl (by decide +kernel) ⟨Nat.le_of_ble_eq_true rfl, Nat.le_of_ble_eq_true rfl⟩) (pre7V hP hK hap [.int x1, .int (ab (r_10 : Int32).toNatClampNeg), .int (be (r_22 : Int32).toNatClampNeg)]) rfl rfl hl.1 rfl (lv_room (Nat.le_of_ble_eq_true rfl)) dX7_model_26 ⟨Nat.zero_le _, Nat.zero_le _⟩) hS (fun _ _ h => h) (fun _ h => h) (fun  u t H locs ht hvm hw hP hz1 hk1 hS => ?_)
  obtain ⟨pi_26, le_26, sg_26, wo_26⟩ := u
  rw [ht] at hP; clear hz1 hk1 ht hvm
  try dsimp only at hw
  try dsimp only at hP
  exact W.vret hx hb hr (fun t ht hW => ⟨⟨(pi_26, le_26, sg_26, wo_26), rfl, hw, by show va_P D vwCl _ t.heap; rw [ht]; exact hP⟩, hS.F ht⟩) hS.2.2 dX7_model_29 hlocks
-- ===== ExactFilterModel.same
abbrev rX7_same : Room := { frames := 1, cells := 0, slots := 0, locals := 23 }
def wp_X7_same (pi : Nat → Int32) (le : Nat → Int32) (sg : Nat → Int32) (x1 : Int32) (x2 : Int32) (post : (Nat → Int32) → (Nat → Int32) → (Nat → Int32) → Prop) : Prop := wp_X7_copy pi le (2 * x1) (2 * x2) (fun (pi_7 : Nat → Int32) (le_7 : Nat → Int32) => wp_X7_copy pi_7 le_7 ((2 * x1) + 1) ((2 * x2) + 1) (fun (pi_21 : Nat → Int32) (le_21 : Nat → Int32) => vp_in x2 24 ∧ vp_in x1 24 ∧ post pi_21 le_21 (upd sg (x1 : Int32).toNatClampNeg (sg (x2 : Int32).toNatClampNeg))))
set_option maxHeartbeats 4000000 in
set_option maxRecDepth 100000 in
theorem m_X7_same (l : Launch) (D : va_G) (cI : ClassId) (q : Nat → Nat) (th : Int32) (sz : Int32) (sd : Int32) (ss : Int32) (pr : Int32) (me : Int32) (ab : Nat → Int32) (be : Nat → Int32) (pi : Nat → Int32) (le : Nat → Int32) (sg : Nat → Int32) (wo : Nat → Int32) (x1 : Int32) (x2 : Int32) (post : (Nat → Int32) → (Nat → Int32) → (Nat → Int32) → Prop) (hw : wp_X7_same pi le sg x1 x2 post) : Met l yX7_same (wu yX7_same cX7_same 3 none) rX7_same (va_Pc [.ref (q 0), .int x1, .int x2] (fun U => va_P D vwCl (w7 cI q th sz sd ss pr me ab be pi le sg wo) U.heap ∧ K7 D cI q U)) (va_Qv (S := (Nat → Int32) × (Nat → Int32) × (Nat → Int32)) (fun u => post u.1 u.2.1 u.2.2) (fun u t => va_P D vwCl (w7 cI q th sz sd ss pr me ab be u.1 u.2.1 u.2.2 wo) t.heap) (A7 q)) 0 0 (A7 q) := by
  refine Met.ofW (cc := cX7_same) (maxL := 3) (ret := none) (by decide) rfl ?_
  intro p e s m args below meth c s₁ B hml hv
  obtain ⟨rfl, hP, hK, hap⟩ := hv
  have C : C7 p s m _ meth c D cI q cX7_same 3 none := ⟨B.exec, B.bytes, B.returns, hml, findClass_of_methodNamed B.named, x_hg (atoms_spec (ws := wu yX7_same cX7_same 3 none) B.pre), B.notSynchronized, hK, hap⟩
  obtain ⟨hx, hb, hr, hml, hown, hg, hlocks, hK, hap⟩ := id C
  have hS : va_S (A7 q) s.heap s.heap [] := va_S.rf
  have hl := lv_entry ([.ref (q 0), .int x1, .int x2]) (n := 3) (Nat.le_of_ble_eq_true rfl)
  rw [lg_entry_eq]
  generalize (lg_sl ([.ref (q 0), .int x1, .int x2]) ++ List.replicate (3 - (lg_sl ([.ref (q 0), .int x1, .int x2])).length) Slot.unset).toArray = ls at hl ⊢
  have hl : lv_has ls 3 [(0, .ref (q 0)), (1, .int x1), (2, .int x2)] := hl
  unfold wp_X7_same at hw
  refine lv_aload_n hx hb dX7_same_0 rfl (lv_at hl 0 rfl) ?_
  refine lv_iconst (v := 2) hx hb dX7_same_1 (by decide) ?_
  refine lv_iload_n hx hb dX7_same_2 rfl (lv_at hl 1 rfl) ?_
  refine lv_imul hx hb dX7_same_3 ?_
  refine lv_iconst (v := 2) hx hb dX7_same_4 (by decide) ?_
  refine lv_iload_n hx hb dX7_same_5 rfl (lv_at hl 2 rfl) ?_
  refine lv_imul hx hb dX7_same_6 ?_
  refine va_callv (va_runV (As := [.int (2 * x1), .int (2 * x2)]) (rest := []) ⟨hx, hb, hml, hown, hg⟩ (m_X7_copy l D cI q th sz sd ss pr me ab be pi le sg wo (2 * x1) (2 * x2) _ hw) (cwV 2 hg (x_gV km_X7_71 ki_X7_copy kz_X7_X7_copy kn_X7 kk_X7_copy) rfl rfl rfl (by decide +kernel) ⟨Nat.le_of_ble_eq_true rfl, Nat.le_of_ble_eq_true rfl⟩) (pre7V hP hK hap [.int (2 * x1), .int (2 * x2)]) rfl rfl hl.1 rfl (lv_room (Nat.le_of_ble_eq_true rfl)) dX7_same_7 ⟨Nat.zero_le _, Nat.zero_le _⟩) hS (fun _ _ h => h) (fun _ h => h) (fun  u t H locs ht hvm hw hP hz1 hk1 hS => ?_)
  obtain ⟨pi_7, le_7⟩ := u
  rw [ht] at hP; clear hz1 hk1 ht hvm
  try dsimp only at hw
  try dsimp only at hP
  refine lv_aload_n hx hb dX7_same_10 rfl (lv_at hl 0 rfl) ?_
  refine lv_iconst (v := 2) hx hb dX7_same_11 (by decide) ?_
  refine lv_iload_n hx hb dX7_same_12 rfl (lv_at hl 1 rfl) ?_
  refine lv_imul hx hb dX7_same_13 ?_
  refine lv_iconst (v := 1) hx hb dX7_same_14 (by decide) ?_
  refine lv_iadd hx hb dX7_same_15 ?_
  refine lv_iconst (v := 2) hx hb dX7_same_16 (by decide) ?_
  refine lv_iload_n hx hb dX7_same_17 rfl (lv_at hl 2 rfl) ?_
  refine lv_imul hx hb dX7_same_18 ?_
  refine lv_iconst (v := 1) hx hb dX7_same_19 (by decide) ?_
  refine lv_iadd hx hb dX7_same_20 ?_
  refine va_callv (va_runV (As := [.int ((2 * x1) + 1), .int ((2 * x2) + 1)]) (rest := []) ⟨hx, hb, hml, hown, hg⟩ (m_X7_copy l D cI q th sz sd ss pr me ab be pi_7 le_7 sg wo ((2 * x1) + 1) ((2 * x2) + 1) _ hw) (cwV 2 hg (x_gV km_X7_71 ki_X7_copy kz_X7_X7_copy kn_X7 kk_X7_copy) rfl rfl rfl (by decide +kernel) ⟨Nat.le_of_ble_eq_true rfl, Nat.le_of_ble_eq_true rfl⟩) (pre7V hP hK hap [.int ((2 * x1) + 1), .int ((2 * x2) + 1)]) rfl rfl hl.1 rfl (lv_room (Nat.le_of_ble_eq_true rfl)) dX7_same_21 ⟨Nat.zero_le _, Nat.zero_le _⟩) hS (fun _ _ h => h) (fun _ h => h) (fun  u t H locs ht hvm hw hP hz1 hk1 hS => ?_)
  obtain ⟨pi_21, le_21⟩ := u
  rw [ht] at hP; clear hz1 hk1 ht hvm
  try dsimp only at hw
  try dsimp only at hP
  refine lv_aload_n hx hb dX7_same_24 rfl (lv_at hl 0 rfl) ?_
  refine va_get (D := D) (ci := 7) (v := .ref (q 5)) (C := RX7) (T := TX7) (N := 12) hx hb hg ku_X7 hown hK hP 0 rfl rfl 10 (by decide) (hg _ kf_X7_43) (fun _ h9 => h9) rfl dX7_same_25 ?_
  refine lv_iload_n hx hb dX7_same_28 rfl (lv_at hl 1 rfl) ?_
  refine lv_aload_n hx hb dX7_same_29 rfl (lv_at hl 0 rfl) ?_
  refine va_get (D := D) (ci := 7) (v := .ref (q 5)) (C := RX7) (T := TX7) (N := 12) hx hb hg ku_X7 hown hK hP 0 rfl rfl 10 (by decide) (hg _ kf_X7_43) (fun _ h9 => h9) rfl dX7_same_30 ?_
  refine lv_iload_n hx hb dX7_same_33 rfl (lv_at hl 2 rfl) ?_
  obtain ⟨hi34, hw⟩ := hw
  refine va_iald (D := D) hx hb hK hP 5 0 rfl rfl hi34 dX7_same_34 ?_
  obtain ⟨hi35, hw⟩ := hw
  refine va_iast (D := D) hx hb hK hP (D7 hap) hS 5 0 rfl rfl hi35 dX7_same_35 (fun H locs hP _ hS => ?_)
  have hP : va_P D vwCl (w7 cI q th sz sd ss pr me ab be pi_21 le_21 (upd sg (x1 : Int32).toNatClampNeg (sg (x2 : Int32).toNatClampNeg)) wo) H := hP
  exact W.vret hx hb hr (fun t ht hW => ⟨⟨(pi_21, le_21, (upd sg (x1 : Int32).toNatClampNeg (sg (x2 : Int32).toNatClampNeg))), rfl, hw, by show va_P D vwCl _ t.heap; rw [ht]; exact hP⟩, hS.F ht⟩) hS.2.2 dX7_same_36 hlocks
-- ===== ExactFilterModel.add
abbrev rX7_add : Room := { frames := 5, cells := 0, slots := 0, locals := 123 }
def wj_X7_add_182  (post : (Nat → Int32) → (Nat → Int32) → (Nat → Int32) → (Nat → Int32) → Prop)  (pi : Nat → Int32) (le : Nat → Int32) (sg : Nat → Int32) (wo : Nat → Int32) (x1 : Int32) : Prop := wp_X7_lowest pi le sg wo x1 (fun (pi_184 : Nat → Int32) (le_184 : Nat → Int32) (sg_184 : Nat → Int32) (wo_184 : Nat → Int32) => post pi_184 le_184 sg_184 wo_184)
def wj_X7_add_111  (post : (Nat → Int32) → (Nat → Int32) → (Nat → Int32) → (Nat → Int32) → Prop)  (pi : Nat → Int32) (le : Nat → Int32) (sg : Nat → Int32) (wo : Nat → Int32) (x1 : Int32) (s1 : Int32) (s2 : Int32) : Prop := vp_in s1 24 ∧ wj_X7_add_182  post  pi le (upd sg (s1 : Int32).toNatClampNeg s2) wo x1
def wj_X7_add_83  (post : (Nat → Int32) → (Nat → Int32) → (Nat → Int32) → (Nat → Int32) → Prop)  (pi : Nat → Int32) (le : Nat → Int32) (sg : Nat → Int32) (wo : Nat → Int32) (x1 : Int32) (x5 : Int32) (x6 : Int32) : Prop := wp_X7_plus pi le wo (2 * x1) 54 55 (fun (pi_91 : Nat → Int32) (le_91 : Nat → Int32) (wo_91 : Nat → Int32) => (¬ x6 = 0 → wj_X7_add_111  post  pi_91 le_91 sg wo_91 x1 x1 x6) ∧ (x6 = 0 → wj_X7_add_111  post  pi_91 le_91 sg wo_91 x1 x1 x5))
def wj_X7_add_151  (post : (Nat → Int32) → (Nat → Int32) → (Nat → Int32) → (Nat → Int32) → Prop)  (pi : Nat → Int32) (le : Nat → Int32) (sg : Nat → Int32) (wo : Nat → Int32) (x1 : Int32) (x7 : Int32) (s1 : Int32) (s2 : Int32) : Prop := vp_in s1 24 ∧ (x7 < 0 → wp_X7_minus pi le wo (2 * x1) 55 54 (fun (pi_179 : Nat → Int32) (le_179 : Nat → Int32) (wo_179 : Nat → Int32) => wj_X7_add_182  post  pi_179 le_179 (upd sg (s1 : Int32).toNatClampNeg s2) wo_179 x1)) ∧ (¬ x7 < 0 → wp_X7_minus pi le wo (2 * x1) 54 55 (fun (pi_165 : Nat → Int32) (le_165 : Nat → Int32) (wo_165 : Nat → Int32) => wj_X7_add_182  post  pi_165 le_165 (upd sg (s1 : Int32).toNatClampNeg s2) wo_165 x1))
def wp_X7_add (pi : Nat → Int32) (le : Nat → Int32) (sg : Nat → Int32) (wo : Nat → Int32) (x1 : Int32) (x2 : Int32) (x3 : Int32) (x4 : Int32) (post : (Nat → Int32) → (Nat → Int32) → (Nat → Int32) → (Nat → Int32) → Prop) : Prop := wp_X7_times pi le wo 54 (2 * x2) ((2 * x3) + 1) (fun (pi_11 : Nat → Int32) (le_11 : Nat → Int32) (wo_11 : Nat → Int32) => wp_X7_times pi_11 le_11 wo_11 55 (2 * x3) ((2 * x2) + 1) (fun (pi_25 : Nat → Int32) (le_25 : Nat → Int32) (wo_25 : Nat → Int32) => wp_X7_times pi_25 le_25 wo_25 ((2 * x1) + 1) ((2 * x2) + 1) ((2 * x3) + 1) (fun (pi_44 : Nat → Int32) (le_44 : Nat → Int32) (wo_44 : Nat → Int32) => vp_in x3 24 ∧ ∀ (x5_56 : Int32), x5_56 = (x4 * (sg (x3 : Int32).toNatClampNeg)) → vp_in x2 24 ∧ ∀ (x6_64 : Int32), x6_64 = (sg (x2 : Int32).toNatClampNeg) → (x6_64 = 0 → wj_X7_add_83  post  pi_44 le_44 sg wo_44 x1 x5_56 x6_64) ∧ (¬ x6_64 = 0 → (x5_56 = 0 → wj_X7_add_83  post  pi_44 le_44 sg wo_44 x1 x5_56 x6_64) ∧ (¬ x5_56 = 0 → (¬ x6_64 = x5_56 → wp_X7_order pi_44 le_44 54 55 (fun (r_120 : Int32) => (¬ r_120 = 0 → (r_120 ≤ 0 → wj_X7_add_151  post  pi_44 le_44 sg wo_44 x1 r_120 x1 x5_56) ∧ (¬ r_120 ≤ 0 → wj_X7_add_151  post  pi_44 le_44 sg wo_44 x1 r_120 x1 x6_64)) ∧ (r_120 = 0 → wj_X7_add_151  post  pi_44 le_44 sg wo_44 x1 r_120 x1 0))) ∧ (x6_64 = x5_56 → wj_X7_add_83  post  pi_44 le_44 sg wo_44 x1 x5_56 x6_64))))))
set_option maxHeartbeats 4000000 in
set_option maxRecDepth 100000 in
theorem mj_X7_add_182 (C : C7 p s m args meth c D cI q cX7_add 8 none) (th : Int32) (sz : Int32) (sd : Int32) (ss : Int32) (pr : Int32) (me : Int32) (ab : Nat → Int32) (be : Nat → Int32) (post : (Nat → Int32) → (Nat → Int32) → (Nat → Int32) → (Nat → Int32) → Prop) 
    
    (pi : Nat → Int32) (le : Nat → Int32) (sg : Nat → Int32) (wo : Nat → Int32) (x1 : Int32) (H : Heap) (locs : List Loc) (ls : Array Slot) (hw : wj_X7_add_182  post  pi le sg wo x1) (hP : va_P D vwCl (w7 cI q th sz sd ss pr me ab be pi le sg wo) H) (hS : va_S (A7 q) s.heap H locs) (hl : lv_has ls 8 [(0, .ref (q 0)), (1, .int x1)]) : W p l e rX7_add s m args below meth c H locs 0 0 (MQ below (va_Qv (S := (Nat → Int32) × (Nat → Int32) × (Nat → Int32) × (Nat → Int32)) (fun u => post u.1 u.2.1 u.2.2.1 u.2.2.2) (fun u t => va_P D vwCl (w7 cI q th sz sd ss pr me ab be u.1 u.2.1 u.2.2.1 u.2.2.2) t.heap) (A7 q)) args s 0 0 (A7 q)) (F0 m 182 ls []) := by
  obtain ⟨hx, hb, hr, hml, hown, hg, hlocks, hK, hap⟩ := id C
  unfold wj_X7_add_182 at hw
  refine lv_aload_n hx hb dX7_add_182 rfl (lv_at hl 0 rfl) ?_
  refine lv_iload_n hx hb dX7_add_183 rfl (lv_at hl 1 rfl) ?_
  refine va_callv (va_runV (As := [.int x1]) (rest := []) ⟨hx, hb, hml, hown, hg⟩ (m_X7_lowest l D cI q th sz sd ss pr me ab be pi le sg wo x1 _ hw) (cwV 1 hg (x_gV km_X7_102 ki_X7_lowest kz_X7_X7_lowest kn_X7 kk_X7_lowest) rfl rfl rfl (by decide +kernel) ⟨Nat.le_of_ble_eq_true rfl, Nat.le_of_ble_eq_true rfl⟩) (pre7V hP hK hap [.int x1]) rfl rfl hl.1 rfl (lv_room (Nat.le_of_ble_eq_true rfl)) dX7_add_184 ⟨Nat.zero_le _, Nat.zero_le _⟩) hS (fun _ _ h => h) (fun _ h => h) (fun  u t H locs ht hvm hw hP hz1 hk1 hS => ?_)
  obtain ⟨pi_184, le_184, sg_184, wo_184⟩ := u
  rw [ht] at hP; clear hz1 hk1 ht hvm
  try dsimp only at hw
  try dsimp only at hP
  exact W.vret hx hb hr (fun t ht hW => ⟨⟨(pi_184, le_184, sg_184, wo_184), rfl, hw, by show va_P D vwCl _ t.heap; rw [ht]; exact hP⟩, hS.F ht⟩) hS.2.2 dX7_add_187 hlocks
set_option maxHeartbeats 4000000 in
set_option maxRecDepth 100000 in
theorem mj_X7_add_111 (C : C7 p s m args meth c D cI q cX7_add 8 none) (th : Int32) (sz : Int32) (sd : Int32) (ss : Int32) (pr : Int32) (me : Int32) (ab : Nat → Int32) (be : Nat → Int32) (post : (Nat → Int32) → (Nat → Int32) → (Nat → Int32) → (Nat → Int32) → Prop) 
    
    (pi : Nat → Int32) (le : Nat → Int32) (sg : Nat → Int32) (wo : Nat → Int32) (x1 : Int32) (s1 : Int32) (s2 : Int32) (H : Heap) (locs : List Loc) (ls : Array Slot) (hw : wj_X7_add_111  post  pi le sg wo x1 s1 s2) (hP : va_P D vwCl (w7 cI q th sz sd ss pr me ab be pi le sg wo) H) (hS : va_S (A7 q) s.heap H locs) (hl : lv_has ls 8 [(0, .ref (q 0)), (1, .int x1)]) : W p l e rX7_add s m args below meth c H locs 0 0 (MQ below (va_Qv (S := (Nat → Int32) × (Nat → Int32) × (Nat → Int32) × (Nat → Int32)) (fun u => post u.1 u.2.1 u.2.2.1 u.2.2.2) (fun u t => va_P D vwCl (w7 cI q th sz sd ss pr me ab be u.1 u.2.1 u.2.2.1 u.2.2.2) t.heap) (A7 q)) args s 0 0 (A7 q)) (F0 m 111 ls [.int s2, .int s1, .ref (q 5)]) := by
  obtain ⟨hx, hb, hr, hml, hown, hg, hlocks, hK, hap⟩ := id C
  unfold wj_X7_add_111 at hw
  obtain ⟨hi111, hw⟩ := hw
  refine va_iast (D := D) hx hb hK hP (D7 hap) hS 5 0 rfl rfl hi111 dX7_add_111 (fun H locs hP _ hS => ?_)
  have hP : va_P D vwCl (w7 cI q th sz sd ss pr me ab be pi le (upd sg (s1 : Int32).toNatClampNeg s2) wo) H := hP
  refine lv_goto (tgt := 182) hx hb dX7_add_112 (by decide) ?_
  exact mj_X7_add_182 C th sz sd ss pr me ab be post  _ _ _ _ _ _ _ _ hw hP hS (lv_sub hl [0, 1] rfl)
set_option maxHeartbeats 4000000 in
set_option maxRecDepth 100000 in
theorem mj_X7_add_83 (C : C7 p s m args meth c D cI q cX7_add 8 none) (th : Int32) (sz : Int32) (sd : Int32) (ss : Int32) (pr : Int32) (me : Int32) (ab : Nat → Int32) (be : Nat → Int32) (post : (Nat → Int32) → (Nat → Int32) → (Nat → Int32) → (Nat → Int32) → Prop) 
    
    (pi : Nat → Int32) (le : Nat → Int32) (sg : Nat → Int32) (wo : Nat → Int32) (x1 : Int32) (x5 : Int32) (x6 : Int32) (H : Heap) (locs : List Loc) (ls : Array Slot) (hw : wj_X7_add_83  post  pi le sg wo x1 x5 x6) (hP : va_P D vwCl (w7 cI q th sz sd ss pr me ab be pi le sg wo) H) (hS : va_S (A7 q) s.heap H locs) (hl : lv_has ls 8 [(0, .ref (q 0)), (1, .int x1), (5, .int x5), (6, .int x6)]) : W p l e rX7_add s m args below meth c H locs 0 0 (MQ below (va_Qv (S := (Nat → Int32) × (Nat → Int32) × (Nat → Int32) × (Nat → Int32)) (fun u => post u.1 u.2.1 u.2.2.1 u.2.2.2) (fun u t => va_P D vwCl (w7 cI q th sz sd ss pr me ab be u.1 u.2.1 u.2.2.1 u.2.2.2) t.heap) (A7 q)) args s 0 0 (A7 q)) (F0 m 83 ls []) := by
  obtain ⟨hx, hb, hr, hml, hown, hg, hlocks, hK, hap⟩ := id C
  unfold wj_X7_add_83 at hw
  refine lv_aload_n hx hb dX7_add_83 rfl (lv_at hl 0 rfl) ?_
  refine lv_iconst (v := 2) hx hb dX7_add_84 (by decide) ?_
  refine lv_iload_n hx hb dX7_add_85 rfl (lv_at hl 1 rfl) ?_
  refine lv_imul hx hb dX7_add_86 ?_
  refine lv_bipush (v := 54) hx hb dX7_add_87 (by decide) ?_
  refine lv_bipush (v := 55) hx hb dX7_add_89 (by decide) ?_
  refine va_callv (va_runV (As := [.int (2 * x1), .int 54, .int 55]) (rest := []) ⟨hx, hb, hml, hown, hg⟩ (m_X7_plus l D cI q th sz sd ss pr me ab be pi le sg wo (2 * x1) 54 55 _ hw) (cwV 3 hg (x_gV km_X7_111 ki_X7_plus kz_X7_X7_plus kn_X7 kk_X7_plus) rfl rfl rfl (by decide +kernel) ⟨Nat.le_of_ble_eq_true rfl, Nat.le_of_ble_eq_true rfl⟩) (pre7V hP hK hap [.int (2 * x1), .int 54, .int 55]) rfl rfl hl.1 rfl (lv_room (Nat.le_of_ble_eq_true rfl)) dX7_add_91 ⟨Nat.zero_le _, Nat.zero_le _⟩) hS (fun _ _ h => h) (fun _ h => h) (fun  u t H locs ht hvm hw hP hz1 hk1 hS => ?_)
  obtain ⟨pi_91, le_91, wo_91⟩ := u
  rw [ht] at hP; clear hz1 hk1 ht hvm
  try dsimp only at hw
  try dsimp only at hP
  refine lv_aload_n hx hb dX7_add_94 rfl (lv_at hl 0 rfl) ?_
  refine va_get (D := D) (ci := 7) (v := .ref (q 5)) (C := RX7) (T := TX7) (N := 12) hx hb hg ku_X7 hown hK hP 0 rfl rfl 10 (by decide) (hg _ kf_X7_43) (fun _ h9 => h9) rfl dX7_add_95 ?_
  refine lv_iload_n hx hb dX7_add_98 rfl (lv_at hl 1 rfl) ?_
  refine lv_iload hx hb dX7_add_99 (lv_at hl 3 rfl) ?_
  refine lv_if_ne (tgt := 109) hx hb dX7_add_101 (by decide) (fun hc101 => ?_) (fun hc101 => ?_)
  · have hw := hw.1 hc101
    refine lv_iload hx hb dX7_add_109 (lv_at hl 3 rfl) ?_
    exact mj_X7_add_111 C th sz sd ss pr me ab be post  _ _ _ _ _ _ _ _ _ _ hw hP hS (lv_sub hl [0, 1] rfl)
  · have hw := hw.2 hc101
    refine lv_iload hx hb dX7_add_104 (lv_at hl 2 rfl) ?_
    refine lv_goto (tgt := 111) hx hb dX7_add_106 (by decide) ?_
    exact mj_X7_add_111 C th sz sd ss pr me ab be post  _ _ _ _ _ _ _ _ _ _ hw hP hS (lv_sub hl [0, 1] rfl)
set_option maxHeartbeats 4000000 in
set_option maxRecDepth 100000 in
theorem mj_X7_add_151 (C : C7 p s m args meth c D cI q cX7_add 8 none) (th : Int32) (sz : Int32) (sd : Int32) (ss : Int32) (pr : Int32) (me : Int32) (ab : Nat → Int32) (be : Nat → Int32) (post : (Nat → Int32) → (Nat → Int32) → (Nat → Int32) → (Nat → Int32) → Prop) 
    
    (pi : Nat → Int32) (le : Nat → Int32) (sg : Nat → Int32) (wo : Nat → Int32) (x1 : Int32) (x7 : Int32) (s1 : Int32) (s2 : Int32) (H : Heap) (locs : List Loc) (ls : Array Slot) (hw : wj_X7_add_151  post  pi le sg wo x1 x7 s1 s2) (hP : va_P D vwCl (w7 cI q th sz sd ss pr me ab be pi le sg wo) H) (hS : va_S (A7 q) s.heap H locs) (hl : lv_has ls 8 [(0, .ref (q 0)), (1, .int x1), (7, .int x7)]) : W p l e rX7_add s m args below meth c H locs 0 0 (MQ below (va_Qv (S := (Nat → Int32) × (Nat → Int32) × (Nat → Int32) × (Nat → Int32)) (fun u => post u.1 u.2.1 u.2.2.1 u.2.2.2) (fun u t => va_P D vwCl (w7 cI q th sz sd ss pr me ab be u.1 u.2.1 u.2.2.1 u.2.2.2) t.heap) (A7 q)) args s 0 0 (A7 q)) (F0 m 151 ls [.int s2, .int s1, .ref (q 5)]) := by
  obtain ⟨hx, hb, hr, hml, hown, hg, hlocks, hK, hap⟩ := id C
  unfold wj_X7_add_151 at hw
  obtain ⟨hi151, hw⟩ := hw
  refine va_iast (D := D) hx hb hK hP (D7 hap) hS 5 0 rfl rfl hi151 dX7_add_151 (fun H locs hP _ hS => ?_)
  have hP : va_P D vwCl (w7 cI q th sz sd ss pr me ab be pi le (upd sg (s1 : Int32).toNatClampNeg s2) wo) H := hP
  refine lv_iload hx hb dX7_add_152 (lv_at hl 2 rfl) ?_
  refine lv_if_lt (tgt := 171) hx hb dX7_add_154 (by decide) (fun hc154 => ?_) (fun hc154 => ?_)
  · have hw := hw.1 hc154
    refine lv_aload_n hx hb dX7_add_171 rfl (lv_at hl 0 rfl) ?_
    refine lv_iconst (v := 2) hx hb dX7_add_172 (by decide) ?_
    refine lv_iload_n hx hb dX7_add_173 rfl (lv_at hl 1 rfl) ?_
    refine lv_imul hx hb dX7_add_174 ?_
    refine lv_bipush (v := 55) hx hb dX7_add_175 (by decide) ?_
    refine lv_bipush (v := 54) hx hb dX7_add_177 (by decide) ?_
    refine va_callv (va_runV (As := [.int (2 * x1), .int 55, .int 54]) (rest := []) ⟨hx, hb, hml, hown, hg⟩ (m_X7_minus l D cI q th sz sd ss pr me ab be pi le (upd sg (s1 : Int32).toNatClampNeg s2) wo (2 * x1) 55 54 _ hw) (cwV 3 hg (x_gV km_X7_114 ki_X7_minus kz_X7_X7_minus kn_X7 kk_X7_minus) rfl rfl rfl (by decide +kernel) ⟨Nat.le_of_ble_eq_true rfl, Nat.le_of_ble_eq_true rfl⟩) (pre7V hP hK hap [.int (2 * x1), .int 55, .int 54]) rfl rfl hl.1 rfl (lv_room (Nat.le_of_ble_eq_true rfl)) dX7_add_179 ⟨Nat.zero_le _, Nat.zero_le _⟩) hS (fun _ _ h => h) (fun _ h => h) (fun  u t H locs ht hvm hw hP hz1 hk1 hS => ?_)
    obtain ⟨pi_179, le_179, wo_179⟩ := u
    rw [ht] at hP; clear hz1 hk1 ht hvm
    try dsimp only at hw
    try dsimp only at hP
    exact mj_X7_add_182 C th sz sd ss pr me ab be post  _ _ _ _ _ _ _ _ hw hP hS (lv_sub hl [0, 1] rfl)
  · have hw := hw.2 hc154
    refine lv_aload_n hx hb dX7_add_157 rfl (lv_at hl 0 rfl) ?_
    refine lv_iconst (v := 2) hx hb dX7_add_158 (by decide) ?_
    refine lv_iload_n hx hb dX7_add_159 rfl (lv_at hl 1 rfl) ?_
    refine lv_imul hx hb dX7_add_160 ?_
    refine lv_bipush (v := 54) hx hb dX7_add_161 (by decide) ?_
    refine lv_bipush (v := 55) hx hb dX7_add_163 (by decide) ?_
    refine va_callv (va_runV (As := [.int (2 * x1), .int 54, .int 55]) (rest := []) ⟨hx, hb, hml, hown, hg⟩ (m_X7_minus l D cI q th sz sd ss pr me ab be pi le (upd sg (s1 : Int32).toNatClampNeg s2) wo (2 * x1) 54 55 _ hw) (cwV 3 hg (x_gV km_X7_114 ki_X7_minus kz_X7_X7_minus kn_X7 kk_X7_minus) rfl rfl rfl (by decide +kernel) ⟨Nat.le_of_ble_eq_true rfl, Nat.le_of_ble_eq_true rfl⟩) (pre7V hP hK hap [.int (2 * x1), .int 54, .int 55]) rfl rfl hl.1 rfl (lv_room (Nat.le_of_ble_eq_true rfl)) dX7_add_165 ⟨Nat.zero_le _, Nat.zero_le _⟩) hS (fun _ _ h => h) (fun _ h => h) (fun  u t H locs ht hvm hw hP hz1 hk1 hS => ?_)
    obtain ⟨pi_165, le_165, wo_165⟩ := u
    rw [ht] at hP; clear hz1 hk1 ht hvm
    try dsimp only at hw
    try dsimp only at hP
    refine lv_goto (tgt := 182) hx hb dX7_add_168 (by decide) ?_
    exact mj_X7_add_182 C th sz sd ss pr me ab be post  _ _ _ _ _ _ _ _ hw hP hS (lv_sub hl [0, 1] rfl)
set_option maxHeartbeats 4000000 in
set_option maxRecDepth 100000 in
theorem m_X7_add (l : Launch) (D : va_G) (cI : ClassId) (q : Nat → Nat) (th : Int32) (sz : Int32) (sd : Int32) (ss : Int32) (pr : Int32) (me : Int32) (ab : Nat → Int32) (be : Nat → Int32) (pi : Nat → Int32) (le : Nat → Int32) (sg : Nat → Int32) (wo : Nat → Int32) (x1 : Int32) (x2 : Int32) (x3 : Int32) (x4 : Int32) (post : (Nat → Int32) → (Nat → Int32) → (Nat → Int32) → (Nat → Int32) → Prop) (hw : wp_X7_add pi le sg wo x1 x2 x3 x4 post) : Met l yX7_add (wu yX7_add cX7_add 8 none) rX7_add (va_Pc [.ref (q 0), .int x1, .int x2, .int x3, .int x4] (fun U => va_P D vwCl (w7 cI q th sz sd ss pr me ab be pi le sg wo) U.heap ∧ K7 D cI q U)) (va_Qv (S := (Nat → Int32) × (Nat → Int32) × (Nat → Int32) × (Nat → Int32)) (fun u => post u.1 u.2.1 u.2.2.1 u.2.2.2) (fun u t => va_P D vwCl (w7 cI q th sz sd ss pr me ab be u.1 u.2.1 u.2.2.1 u.2.2.2) t.heap) (A7 q)) 0 0 (A7 q) := by
  refine Met.ofW (cc := cX7_add) (maxL := 8) (ret := none) (by decide) rfl ?_
  intro p e s m args below meth c s₁ B hml hv
  obtain ⟨rfl, hP, hK, hap⟩ := hv
  have C : C7 p s m _ meth c D cI q cX7_add 8 none := ⟨B.exec, B.bytes, B.returns, hml, findClass_of_methodNamed B.named, x_hg (atoms_spec (ws := wu yX7_add cX7_add 8 none) B.pre), B.notSynchronized, hK, hap⟩
  obtain ⟨hx, hb, hr, hml, hown, hg, hlocks, hK, hap⟩ := id C
  have hS : va_S (A7 q) s.heap s.heap [] := va_S.rf
  have hl := lv_entry ([.ref (q 0), .int x1, .int x2, .int x3, .int x4]) (n := 8) (Nat.le_of_ble_eq_true rfl)
  rw [lg_entry_eq]
  generalize (lg_sl ([.ref (q 0), .int x1, .int x2, .int x3, .int x4]) ++ List.replicate (8 - (lg_sl ([.ref (q 0), .int x1, .int x2, .int x3, .int x4])).length) Slot.unset).toArray = ls at hl ⊢
  have hl : lv_has ls 8 [(0, .ref (q 0)), (1, .int x1), (2, .int x2), (3, .int x3), (4, .int x4)] := hl
  unfold wp_X7_add at hw
  refine lv_aload_n hx hb dX7_add_0 rfl (lv_at hl 0 rfl) ?_
  refine lv_bipush (v := 54) hx hb dX7_add_1 (by decide) ?_
  refine lv_iconst (v := 2) hx hb dX7_add_3 (by decide) ?_
  refine lv_iload_n hx hb dX7_add_4 rfl (lv_at hl 2 rfl) ?_
  refine lv_imul hx hb dX7_add_5 ?_
  refine lv_iconst (v := 2) hx hb dX7_add_6 (by decide) ?_
  refine lv_iload_n hx hb dX7_add_7 rfl (lv_at hl 3 rfl) ?_
  refine lv_imul hx hb dX7_add_8 ?_
  refine lv_iconst (v := 1) hx hb dX7_add_9 (by decide) ?_
  refine lv_iadd hx hb dX7_add_10 ?_
  refine va_callv (va_runV (As := [.int 54, .int (2 * x2), .int ((2 * x3) + 1)]) (rest := []) ⟨hx, hb, hml, hown, hg⟩ (m_X7_times l D cI q th sz sd ss pr me ab be pi le sg wo 54 (2 * x2) ((2 * x3) + 1) _ hw) (cwV 3 hg (x_gV km_X7_108 ki_X7_times kz_X7_X7_times kn_X7 kk_X7_times) rfl rfl rfl (by decide +kernel) ⟨Nat.le_of_ble_eq_true rfl, Nat.le_of_ble_eq_true rfl⟩) (pre7V hP hK hap [.int 54, .int (2 * x2), .int ((2 * x3) + 1)]) rfl rfl hl.1 rfl (lv_room (Nat.le_of_ble_eq_true rfl)) dX7_add_11 ⟨Nat.zero_le _, Nat.zero_le _⟩) hS (fun _ _ h => h) (fun _ h => h) (fun  u t H locs ht hvm hw hP hz1 hk1 hS => ?_)
  obtain ⟨pi_11, le_11, wo_11⟩ := u
  rw [ht] at hP; clear hz1 hk1 ht hvm
  try dsimp only at hw
  try dsimp only at hP
  refine lv_aload_n hx hb dX7_add_14 rfl (lv_at hl 0 rfl) ?_
  refine lv_bipush (v := 55) hx hb dX7_add_15 (by decide) ?_
  refine lv_iconst (v := 2) hx hb dX7_add_17 (by decide) ?_
  refine lv_iload_n hx hb dX7_add_18 rfl (lv_at hl 3 rfl) ?_
  refine lv_imul hx hb dX7_add_19 ?_
  refine lv_iconst (v := 2) hx hb dX7_add_20 (by decide) ?_
  refine lv_iload_n hx hb dX7_add_21 rfl (lv_at hl 2 rfl) ?_
  refine lv_imul hx hb dX7_add_22 ?_
  refine lv_iconst (v := 1) hx hb dX7_add_23 (by decide) ?_
  refine lv_iadd hx hb dX7_add_24 ?_
  refine va_callv (va_runV (As := [.int 55, .int (2 * x3), .int ((2 * x2) + 1)]) (rest := []) ⟨hx, hb, hml, hown, hg⟩ (m_X7_times l D cI q th sz sd ss pr me ab be pi_11 le_11 sg wo_11 55 (2 * x3) ((2 * x2) + 1) _ hw) (cwV 3 hg (x_gV km_X7_108 ki_X7_times kz_X7_X7_times kn_X7 kk_X7_times) rfl rfl rfl (by decide +kernel) ⟨Nat.le_of_ble_eq_true rfl, Nat.le_of_ble_eq_true rfl⟩) (pre7V hP hK hap [.int 55, .int (2 * x3), .int ((2 * x2) + 1)]) rfl rfl hl.1 rfl (lv_room (Nat.le_of_ble_eq_true rfl)) dX7_add_25 ⟨Nat.zero_le _, Nat.zero_le _⟩) hS (fun _ _ h => h) (fun _ h => h) (fun  u t H locs ht hvm hw hP hz1 hk1 hS => ?_)
  obtain ⟨pi_25, le_25, wo_25⟩ := u
  rw [ht] at hP; clear hz1 hk1 ht hvm
  try dsimp only at hw
  try dsimp only at hP
  refine lv_aload_n hx hb dX7_add_28 rfl (lv_at hl 0 rfl) ?_
  refine lv_iconst (v := 2) hx hb dX7_add_29 (by decide) ?_
  refine lv_iload_n hx hb dX7_add_30 rfl (lv_at hl 1 rfl) ?_
  refine lv_imul hx hb dX7_add_31 ?_
  refine lv_iconst (v := 1) hx hb dX7_add_32 (by decide) ?_
  refine lv_iadd hx hb dX7_add_33 ?_
  refine lv_iconst (v := 2) hx hb dX7_add_34 (by decide) ?_
  refine lv_iload_n hx hb dX7_add_35 rfl (lv_at hl 2 rfl) ?_
  refine lv_imul hx hb dX7_add_36 ?_
  refine lv_iconst (v := 1) hx hb dX7_add_37 (by decide) ?_
  refine lv_iadd hx hb dX7_add_38 ?_
  refine lv_iconst (v := 2) hx hb dX7_add_39 (by decide) ?_
  refine lv_iload_n hx hb dX7_add_40 rfl (lv_at hl 3 rfl) ?_
  refine lv_imul hx hb dX7_add_41 ?_
  refine lv_iconst (v := 1) hx hb dX7_add_42 (by decide) ?_
  refine lv_iadd hx hb dX7_add_43 ?_
  refine va_callv (va_runV (As := [.int ((2 * x1) + 1), .int ((2 * x2) + 1), .int ((2 * x3) + 1)]) (rest := []) ⟨hx, hb, hml, hown, hg⟩ (m_X7_times l D cI q th sz sd ss pr me ab be pi_25 le_25 sg wo_25 ((2 * x1) + 1) ((2 * x2) + 1) ((2 * x3) + 1) _ hw) (cwV 3 hg (x_gV km_X7_108 ki_X7_times kz_X7_X7_times kn_X7 kk_X7_times) rfl rfl rfl (by decide +kernel) ⟨Nat.le_of_ble_eq_true rfl, Nat.le_of_ble_eq_true rfl⟩) (pre7V hP hK hap [.int ((2 * x1) + 1), .int ((2 * x2) + 1), .int ((2 * x3) + 1)]) rfl rfl hl.1 rfl (lv_room (Nat.le_of_ble_eq_true rfl)) dX7_add_44 ⟨Nat.zero_le _, Nat.zero_le _⟩) hS (fun _ _ h => h) (fun _ h => h) (fun  u t H locs ht hvm hw hP hz1 hk1 hS => ?_)
  obtain ⟨pi_44, le_44, wo_44⟩ := u
  rw [ht] at hP; clear hz1 hk1 ht hvm
  try dsimp only at hw
  try dsimp only at hP
  refine lv_iload hx hb dX7_add_47 (lv_at hl 4 rfl) ?_
  refine lv_aload_n hx hb dX7_add_49 rfl (lv_at hl 0 rfl) ?_
  refine va_get (D := D) (ci := 7) (v := .ref (q 5)) (C := RX7) (T := TX7) (N := 12) hx hb hg ku_X7 hown hK hP 0 rfl rfl 10 (by decide) (hg _ kf_X7_43) (fun _ h9 => h9) rfl dX7_add_50 ?_
  refine lv_iload_n hx hb dX7_add_53 rfl (lv_at hl 3 rfl) ?_
  obtain ⟨hi54, hw⟩ := hw
  refine va_iald (D := D) hx hb hK hP 5 0 rfl rfl hi54 dX7_add_54 ?_
  refine lv_imul hx hb dX7_add_55 ?_
  refine lv_topi (fun x5_56 ex5_56 => ?_)
  have hw := hw x5_56 ex5_56
  refine lv_istore (lv' := [(5, .int x5_56), (0, .ref (q 0)), (1, .int x1), (2, .int x2), (3, .int x3), (4, .int x4)]) hx hb dX7_add_56 hl (by decide) rfl (fun ls hl => ?_)
  refine lv_aload_n hx hb dX7_add_58 rfl (lv_at hl 1 rfl) ?_
  refine va_get (D := D) (ci := 7) (v := .ref (q 5)) (C := RX7) (T := TX7) (N := 12) hx hb hg ku_X7 hown hK hP 0 rfl rfl 10 (by decide) (hg _ kf_X7_43) (fun _ h9 => h9) rfl dX7_add_59 ?_
  refine lv_iload_n hx hb dX7_add_62 rfl (lv_at hl 3 rfl) ?_
  obtain ⟨hi63, hw⟩ := hw
  refine va_iald (D := D) hx hb hK hP 5 0 rfl rfl hi63 dX7_add_63 ?_
  refine lv_topi (fun x6_64 ex6_64 => ?_)
  have hw := hw x6_64 ex6_64
  refine lv_istore (lv' := [(6, .int x6_64), (5, .int x5_56), (0, .ref (q 0)), (1, .int x1), (2, .int x2), (3, .int x3), (4, .int x4)]) hx hb dX7_add_64 hl (by decide) rfl (fun ls hl => ?_)
  refine lv_iload hx hb dX7_add_66 (lv_at hl 0 rfl) ?_
  refine lv_if_eq (tgt := 83) hx hb dX7_add_68 (by decide) (fun hc68 => ?_) (fun hc68 => ?_)
  · have hw := hw.1 hc68
    exact mj_X7_add_83 C th sz sd ss pr me ab be post  _ _ _ _ _ _ _ _ _ _ hw hP hS (lv_sub hl [2, 3, 1, 0] rfl)
  · have hw := hw.2 hc68
    refine lv_iload hx hb dX7_add_71 (lv_at hl 1 rfl) ?_
    refine lv_if_eq (tgt := 83) hx hb dX7_add_73 (by decide) (fun hc73 => ?_) (fun hc73 => ?_)
    · have hw := hw.1 hc73
      exact mj_X7_add_83 C th sz sd ss pr me ab be post  _ _ _ _ _ _ _ _ _ _ hw hP hS (lv_sub hl [2, 3, 1, 0] rfl)
    · have hw := hw.2 hc73
      refine lv_iload hx hb dX7_add_76 (lv_at hl 0 rfl) ?_
      refine lv_iload hx hb dX7_add_78 (lv_at hl 1 rfl) ?_
      refine lv_icmp_ne (tgt := 115) hx hb dX7_add_80 (by decide) (fun hc80 => ?_) (fun hc80 => ?_)
      · have hw := hw.1 hc80
        refine lv_aload_n hx hb dX7_add_115 rfl (lv_at hl 2 rfl) ?_
        refine lv_bipush (v := 54) hx hb dX7_add_116 (by decide) ?_
        refine lv_bipush (v := 55) hx hb dX7_add_118 (by decide) ?_
        refine va_calli (va_runV (As := [.int 54, .int 55]) (rest := []) ⟨hx, hb, hml, hown, hg⟩ (m_X7_order l D cI q th sz sd ss pr me ab be pi_44 le_44 sg wo_44 54 55 _ hw) (cwV 2 hg (x_gV km_X7_68 ki_X7_order kz_X7_X7_order kn_X7 kk_X7_order) rfl rfl rfl (by decide +kernel) ⟨Nat.le_of_ble_eq_true rfl, Nat.le_of_ble_eq_true rfl⟩) (pre7V hP hK hap [.int 54, .int 55]) rfl rfl hl.1 rfl (lv_room (Nat.le_of_ble_eq_true rfl)) dX7_add_120 ⟨Nat.zero_le _, Nat.zero_le _⟩) hS (fun _ _ h => h) (fun _ h => h) (fun r_120 u t H locs ht hvm hw hP hz1 hk1 hS => ?_)
        rw [ht] at hP; clear hz1 hk1 ht hvm
        try dsimp only at hw
        try dsimp only at hP
        refine lv_istore (lv' := [(7, .int r_120), (6, .int x6_64), (5, .int x5_56), (0, .ref (q 0)), (1, .int x1), (2, .int x2), (3, .int x3), (4, .int x4)]) hx hb dX7_add_123 hl (by decide) rfl (fun ls hl => ?_)
        refine lv_aload_n hx hb dX7_add_125 rfl (lv_at hl 3 rfl) ?_
        refine va_get (D := D) (ci := 7) (v := .ref (q 5)) (C := RX7) (T := TX7) (N := 12) hx hb hg ku_X7 hown hK hP 0 rfl rfl 10 (by decide) (hg _ kf_X7_43) (fun _ h9 => h9) rfl dX7_add_126 ?_
        refine lv_iload_n hx hb dX7_add_129 rfl (lv_at hl 4 rfl) ?_
        refine lv_iload hx hb dX7_add_130 (lv_at hl 0 rfl) ?_
        refine lv_if_ne (tgt := 139) hx hb dX7_add_132 (by decide) (fun hc132 => ?_) (fun hc132 => ?_)
        · have hw := hw.1 hc132
          refine lv_iload hx hb dX7_add_139 (lv_at hl 0 rfl) ?_
          refine lv_if_le (tgt := 149) hx hb dX7_add_141 (by decide) (fun hc141 => ?_) (fun hc141 => ?_)
          · have hw := hw.1 hc141
            refine lv_iload hx hb dX7_add_149 (lv_at hl 2 rfl) ?_
            exact mj_X7_add_151 C th sz sd ss pr me ab be post  _ _ _ _ _ _ _ _ _ _ _ hw hP hS (lv_sub hl [3, 4, 0] rfl)
          · have hw := hw.2 hc141
            refine lv_iload hx hb dX7_add_144 (lv_at hl 1 rfl) ?_
            refine lv_goto (tgt := 151) hx hb dX7_add_146 (by decide) ?_
            exact mj_X7_add_151 C th sz sd ss pr me ab be post  _ _ _ _ _ _ _ _ _ _ _ hw hP hS (lv_sub hl [3, 4, 0] rfl)
        · have hw := hw.2 hc132
          refine lv_iconst (v := 0) hx hb dX7_add_135 (by decide) ?_
          refine lv_goto (tgt := 151) hx hb dX7_add_136 (by decide) ?_
          exact mj_X7_add_151 C th sz sd ss pr me ab be post  _ _ _ _ _ _ _ _ _ _ _ hw hP hS (lv_sub hl [3, 4, 0] rfl)
      · have hw := hw.2 hc80
        exact mj_X7_add_83 C th sz sd ss pr me ab be post  _ _ _ _ _ _ _ _ _ _ hw hP hS (lv_sub hl [2, 3, 1, 0] rfl)
-- ===== ExactFilterModel.multiply
abbrev rX7_multiply : Room := { frames := 5, cells := 0, slots := 0, locals := 123 }
def wp_X7_multiply (pi : Nat → Int32) (le : Nat → Int32) (sg : Nat → Int32) (wo : Nat → Int32) (x1 : Int32) (x2 : Int32) (x3 : Int32) (post : (Nat → Int32) → (Nat → Int32) → (Nat → Int32) → (Nat → Int32) → Prop) : Prop := vp_in x2 24 ∧ vp_in x3 24 ∧ ∀ (x4_13 : Int32), x4_13 = ((sg (x2 : Int32).toNatClampNeg) * (sg (x3 : Int32).toNatClampNeg)) → wp_X7_times pi le wo (2 * x1) (2 * x2) (2 * x3) (fun (pi_25 : Nat → Int32) (le_25 : Nat → Int32) (wo_25 : Nat → Int32) => wp_X7_times pi_25 le_25 wo_25 ((2 * x1) + 1) ((2 * x2) + 1) ((2 * x3) + 1) (fun (pi_44 : Nat → Int32) (le_44 : Nat → Int32) (wo_44 : Nat → Int32) => vp_in x1 24 ∧ wp_X7_lowest pi_44 le_44 (upd sg (x1 : Int32).toNatClampNeg x4_13) wo_44 x1 (fun (pi_57 : Nat → Int32) (le_57 : Nat → Int32) (sg_57 : Nat → Int32) (wo_57 : Nat → Int32) => post pi_57 le_57 sg_57 wo_57)))
set_option maxHeartbeats 4000000 in
set_option maxRecDepth 100000 in
theorem m_X7_multiply (l : Launch) (D : va_G) (cI : ClassId) (q : Nat → Nat) (th : Int32) (sz : Int32) (sd : Int32) (ss : Int32) (pr : Int32) (me : Int32) (ab : Nat → Int32) (be : Nat → Int32) (pi : Nat → Int32) (le : Nat → Int32) (sg : Nat → Int32) (wo : Nat → Int32) (x1 : Int32) (x2 : Int32) (x3 : Int32) (post : (Nat → Int32) → (Nat → Int32) → (Nat → Int32) → (Nat → Int32) → Prop) (hw : wp_X7_multiply pi le sg wo x1 x2 x3 post) : Met l yX7_multiply (wu yX7_multiply cX7_multiply 5 none) rX7_multiply (va_Pc [.ref (q 0), .int x1, .int x2, .int x3] (fun U => va_P D vwCl (w7 cI q th sz sd ss pr me ab be pi le sg wo) U.heap ∧ K7 D cI q U)) (va_Qv (S := (Nat → Int32) × (Nat → Int32) × (Nat → Int32) × (Nat → Int32)) (fun u => post u.1 u.2.1 u.2.2.1 u.2.2.2) (fun u t => va_P D vwCl (w7 cI q th sz sd ss pr me ab be u.1 u.2.1 u.2.2.1 u.2.2.2) t.heap) (A7 q)) 0 0 (A7 q) := by
  refine Met.ofW (cc := cX7_multiply) (maxL := 5) (ret := none) (by decide) rfl ?_
  intro p e s m args below meth c s₁ B hml hv
  obtain ⟨rfl, hP, hK, hap⟩ := hv
  have C : C7 p s m _ meth c D cI q cX7_multiply 5 none := ⟨B.exec, B.bytes, B.returns, hml, findClass_of_methodNamed B.named, x_hg (atoms_spec (ws := wu yX7_multiply cX7_multiply 5 none) B.pre), B.notSynchronized, hK, hap⟩
  obtain ⟨hx, hb, hr, hml, hown, hg, hlocks, hK, hap⟩ := id C
  have hS : va_S (A7 q) s.heap s.heap [] := va_S.rf
  have hl := lv_entry ([.ref (q 0), .int x1, .int x2, .int x3]) (n := 5) (Nat.le_of_ble_eq_true rfl)
  rw [lg_entry_eq]
  generalize (lg_sl ([.ref (q 0), .int x1, .int x2, .int x3]) ++ List.replicate (5 - (lg_sl ([.ref (q 0), .int x1, .int x2, .int x3])).length) Slot.unset).toArray = ls at hl ⊢
  have hl : lv_has ls 5 [(0, .ref (q 0)), (1, .int x1), (2, .int x2), (3, .int x3)] := hl
  unfold wp_X7_multiply at hw
  refine lv_aload_n hx hb dX7_multiply_0 rfl (lv_at hl 0 rfl) ?_
  refine va_get (D := D) (ci := 7) (v := .ref (q 5)) (C := RX7) (T := TX7) (N := 12) hx hb hg ku_X7 hown hK hP 0 rfl rfl 10 (by decide) (hg _ kf_X7_43) (fun _ h9 => h9) rfl dX7_multiply_1 ?_
  refine lv_iload_n hx hb dX7_multiply_4 rfl (lv_at hl 2 rfl) ?_
  obtain ⟨hi5, hw⟩ := hw
  refine va_iald (D := D) hx hb hK hP 5 0 rfl rfl hi5 dX7_multiply_5 ?_
  refine lv_aload_n hx hb dX7_multiply_6 rfl (lv_at hl 0 rfl) ?_
  refine va_get (D := D) (ci := 7) (v := .ref (q 5)) (C := RX7) (T := TX7) (N := 12) hx hb hg ku_X7 hown hK hP 0 rfl rfl 10 (by decide) (hg _ kf_X7_43) (fun _ h9 => h9) rfl dX7_multiply_7 ?_
  refine lv_iload_n hx hb dX7_multiply_10 rfl (lv_at hl 3 rfl) ?_
  obtain ⟨hi11, hw⟩ := hw
  refine va_iald (D := D) hx hb hK hP 5 0 rfl rfl hi11 dX7_multiply_11 ?_
  refine lv_imul hx hb dX7_multiply_12 ?_
  refine lv_topi (fun x4_13 ex4_13 => ?_)
  have hw := hw x4_13 ex4_13
  refine lv_istore (lv' := [(4, .int x4_13), (0, .ref (q 0)), (1, .int x1), (2, .int x2), (3, .int x3)]) hx hb dX7_multiply_13 hl (by decide) rfl (fun ls hl => ?_)
  refine lv_aload_n hx hb dX7_multiply_15 rfl (lv_at hl 1 rfl) ?_
  refine lv_iconst (v := 2) hx hb dX7_multiply_16 (by decide) ?_
  refine lv_iload_n hx hb dX7_multiply_17 rfl (lv_at hl 2 rfl) ?_
  refine lv_imul hx hb dX7_multiply_18 ?_
  refine lv_iconst (v := 2) hx hb dX7_multiply_19 (by decide) ?_
  refine lv_iload_n hx hb dX7_multiply_20 rfl (lv_at hl 3 rfl) ?_
  refine lv_imul hx hb dX7_multiply_21 ?_
  refine lv_iconst (v := 2) hx hb dX7_multiply_22 (by decide) ?_
  refine lv_iload_n hx hb dX7_multiply_23 rfl (lv_at hl 4 rfl) ?_
  refine lv_imul hx hb dX7_multiply_24 ?_
  refine va_callv (va_runV (As := [.int (2 * x1), .int (2 * x2), .int (2 * x3)]) (rest := []) ⟨hx, hb, hml, hown, hg⟩ (m_X7_times l D cI q th sz sd ss pr me ab be pi le sg wo (2 * x1) (2 * x2) (2 * x3) _ hw) (cwV 3 hg (x_gV km_X7_108 ki_X7_times kz_X7_X7_times kn_X7 kk_X7_times) rfl rfl rfl (by decide +kernel) ⟨Nat.le_of_ble_eq_true rfl, Nat.le_of_ble_eq_true rfl⟩) (pre7V hP hK hap [.int (2 * x1), .int (2 * x2), .int (2 * x3)]) rfl rfl hl.1 rfl (lv_room (Nat.le_of_ble_eq_true rfl)) dX7_multiply_25 ⟨Nat.zero_le _, Nat.zero_le _⟩) hS (fun _ _ h => h) (fun _ h => h) (fun  u t H locs ht hvm hw hP hz1 hk1 hS => ?_)
  obtain ⟨pi_25, le_25, wo_25⟩ := u
  rw [ht] at hP; clear hz1 hk1 ht hvm
  try dsimp only at hw
  try dsimp only at hP
  refine lv_aload_n hx hb dX7_multiply_28 rfl (lv_at hl 1 rfl) ?_
  refine lv_iconst (v := 2) hx hb dX7_multiply_29 (by decide) ?_
  refine lv_iload_n hx hb dX7_multiply_30 rfl (lv_at hl 2 rfl) ?_
  refine lv_imul hx hb dX7_multiply_31 ?_
  refine lv_iconst (v := 1) hx hb dX7_multiply_32 (by decide) ?_
  refine lv_iadd hx hb dX7_multiply_33 ?_
  refine lv_iconst (v := 2) hx hb dX7_multiply_34 (by decide) ?_
  refine lv_iload_n hx hb dX7_multiply_35 rfl (lv_at hl 3 rfl) ?_
  refine lv_imul hx hb dX7_multiply_36 ?_
  refine lv_iconst (v := 1) hx hb dX7_multiply_37 (by decide) ?_
  refine lv_iadd hx hb dX7_multiply_38 ?_
  refine lv_iconst (v := 2) hx hb dX7_multiply_39 (by decide) ?_
  refine lv_iload_n hx hb dX7_multiply_40 rfl (lv_at hl 4 rfl) ?_
  refine lv_imul hx hb dX7_multiply_41 ?_
  refine lv_iconst (v := 1) hx hb dX7_multiply_42 (by decide) ?_
  refine lv_iadd hx hb dX7_multiply_43 ?_
  refine va_callv (va_runV (As := [.int ((2 * x1) + 1), .int ((2 * x2) + 1), .int ((2 * x3) + 1)]) (rest := []) ⟨hx, hb, hml, hown, hg⟩ (m_X7_times l D cI q th sz sd ss pr me ab be pi_25 le_25 sg wo_25 ((2 * x1) + 1) ((2 * x2) + 1) ((2 * x3) + 1) _ hw) (cwV 3 hg (x_gV km_X7_108 ki_X7_times kz_X7_X7_times kn_X7 kk_X7_times) rfl rfl rfl (by decide +kernel) ⟨Nat.le_of_ble_eq_true rfl, Nat.le_of_ble_eq_true rfl⟩) (pre7V hP hK hap [.int ((2 * x1) + 1), .int ((2 * x2) + 1), .int ((2 * x3) + 1)]) rfl rfl hl.1 rfl (lv_room (Nat.le_of_ble_eq_true rfl)) dX7_multiply_44 ⟨Nat.zero_le _, Nat.zero_le _⟩) hS (fun _ _ h => h) (fun _ h => h) (fun  u t H locs ht hvm hw hP hz1 hk1 hS => ?_)
  obtain ⟨pi_44, le_44, wo_44⟩ := u
  rw [ht] at hP; clear hz1 hk1 ht hvm
  try dsimp only at hw
  try dsimp only at hP
  refine lv_aload_n hx hb dX7_multiply_47 rfl (lv_at hl 1 rfl) ?_
  refine va_get (D := D) (ci := 7) (v := .ref (q 5)) (C := RX7) (T := TX7) (N := 12) hx hb hg ku_X7 hown hK hP 0 rfl rfl 10 (by decide) (hg _ kf_X7_43) (fun _ h9 => h9) rfl dX7_multiply_48 ?_
  refine lv_iload_n hx hb dX7_multiply_51 rfl (lv_at hl 2 rfl) ?_
  refine lv_iload hx hb dX7_multiply_52 (lv_at hl 0 rfl) ?_
  obtain ⟨hi54, hw⟩ := hw
  refine va_iast (D := D) hx hb hK hP (D7 hap) hS 5 0 rfl rfl hi54 dX7_multiply_54 (fun H locs hP _ hS => ?_)
  have hP : va_P D vwCl (w7 cI q th sz sd ss pr me ab be pi_44 le_44 (upd sg (x1 : Int32).toNatClampNeg x4_13) wo_44) H := hP
  refine lv_aload_n hx hb dX7_multiply_55 rfl (lv_at hl 1 rfl) ?_
  refine lv_iload_n hx hb dX7_multiply_56 rfl (lv_at hl 2 rfl) ?_
  refine va_callv (va_runV (As := [.int x1]) (rest := []) ⟨hx, hb, hml, hown, hg⟩ (m_X7_lowest l D cI q th sz sd ss pr me ab be pi_44 le_44 (upd sg (x1 : Int32).toNatClampNeg x4_13) wo_44 x1 _ hw) (cwV 1 hg (x_gV km_X7_102 ki_X7_lowest kz_X7_X7_lowest kn_X7 kk_X7_lowest) rfl rfl rfl (by decide +kernel) ⟨Nat.le_of_ble_eq_true rfl, Nat.le_of_ble_eq_true rfl⟩) (pre7V hP hK hap [.int x1]) rfl rfl hl.1 rfl (lv_room (Nat.le_of_ble_eq_true rfl)) dX7_multiply_57 ⟨Nat.zero_le _, Nat.zero_le _⟩) hS (fun _ _ h => h) (fun _ h => h) (fun  u t H locs ht hvm hw hP hz1 hk1 hS => ?_)
  obtain ⟨pi_57, le_57, sg_57, wo_57⟩ := u
  rw [ht] at hP; clear hz1 hk1 ht hvm
  try dsimp only at hw
  try dsimp only at hP
  exact W.vret hx hb hr (fun t ht hW => ⟨⟨(pi_57, le_57, sg_57, wo_57), rfl, hw, by show va_P D vwCl _ t.heap; rw [ht]; exact hP⟩, hS.F ht⟩) hS.2.2 dX7_multiply_60 hlocks
-- ===== ExactFilterModel.quotient
abbrev rX7_quotient : Room := { frames := 5, cells := 0, slots := 0, locals := 123 }
def wp_X7_quotient (pi : Nat → Int32) (le : Nat → Int32) (sg : Nat → Int32) (wo : Nat → Int32) (x1 : Int32) (x2 : Int32) (x3 : Int32) (post : (Nat → Int32) → (Nat → Int32) → (Nat → Int32) → (Nat → Int32) → Prop) : Prop := vp_in x2 24 ∧ vp_in x3 24 ∧ ∀ (x4_13 : Int32), x4_13 = ((sg (x2 : Int32).toNatClampNeg) * (sg (x3 : Int32).toNatClampNeg)) → wp_X7_times pi le wo 54 (2 * x2) ((2 * x3) + 1) (fun (pi_26 : Nat → Int32) (le_26 : Nat → Int32) (wo_26 : Nat → Int32) => wp_X7_times pi_26 le_26 wo_26 55 ((2 * x2) + 1) (2 * x3) (fun (pi_40 : Nat → Int32) (le_40 : Nat → Int32) (wo_40 : Nat → Int32) => wp_X7_copy pi_40 le_40 (2 * x1) 54 (fun (pi_49 : Nat → Int32) (le_49 : Nat → Int32) => wp_X7_copy pi_49 le_49 ((2 * x1) + 1) 55 (fun (pi_60 : Nat → Int32) (le_60 : Nat → Int32) => vp_in x1 24 ∧ wp_X7_lowest pi_60 le_60 (upd sg (x1 : Int32).toNatClampNeg x4_13) wo_40 x1 (fun (pi_73 : Nat → Int32) (le_73 : Nat → Int32) (sg_73 : Nat → Int32) (wo_73 : Nat → Int32) => post pi_73 le_73 sg_73 wo_73)))))
set_option maxHeartbeats 4000000 in
set_option maxRecDepth 100000 in
theorem m_X7_quotient (l : Launch) (D : va_G) (cI : ClassId) (q : Nat → Nat) (th : Int32) (sz : Int32) (sd : Int32) (ss : Int32) (pr : Int32) (me : Int32) (ab : Nat → Int32) (be : Nat → Int32) (pi : Nat → Int32) (le : Nat → Int32) (sg : Nat → Int32) (wo : Nat → Int32) (x1 : Int32) (x2 : Int32) (x3 : Int32) (post : (Nat → Int32) → (Nat → Int32) → (Nat → Int32) → (Nat → Int32) → Prop) (hw : wp_X7_quotient pi le sg wo x1 x2 x3 post) : Met l yX7_quotient (wu yX7_quotient cX7_quotient 5 none) rX7_quotient (va_Pc [.ref (q 0), .int x1, .int x2, .int x3] (fun U => va_P D vwCl (w7 cI q th sz sd ss pr me ab be pi le sg wo) U.heap ∧ K7 D cI q U)) (va_Qv (S := (Nat → Int32) × (Nat → Int32) × (Nat → Int32) × (Nat → Int32)) (fun u => post u.1 u.2.1 u.2.2.1 u.2.2.2) (fun u t => va_P D vwCl (w7 cI q th sz sd ss pr me ab be u.1 u.2.1 u.2.2.1 u.2.2.2) t.heap) (A7 q)) 0 0 (A7 q) := by
  refine Met.ofW (cc := cX7_quotient) (maxL := 5) (ret := none) (by decide) rfl ?_
  intro p e s m args below meth c s₁ B hml hv
  obtain ⟨rfl, hP, hK, hap⟩ := hv
  have C : C7 p s m _ meth c D cI q cX7_quotient 5 none := ⟨B.exec, B.bytes, B.returns, hml, findClass_of_methodNamed B.named, x_hg (atoms_spec (ws := wu yX7_quotient cX7_quotient 5 none) B.pre), B.notSynchronized, hK, hap⟩
  obtain ⟨hx, hb, hr, hml, hown, hg, hlocks, hK, hap⟩ := id C
  have hS : va_S (A7 q) s.heap s.heap [] := va_S.rf
  have hl := lv_entry ([.ref (q 0), .int x1, .int x2, .int x3]) (n := 5) (Nat.le_of_ble_eq_true rfl)
  rw [lg_entry_eq]
  generalize (lg_sl ([.ref (q 0), .int x1, .int x2, .int x3]) ++ List.replicate (5 - (lg_sl ([.ref (q 0), .int x1, .int x2, .int x3])).length) Slot.unset).toArray = ls at hl ⊢
  have hl : lv_has ls 5 [(0, .ref (q 0)), (1, .int x1), (2, .int x2), (3, .int x3)] := hl
  unfold wp_X7_quotient at hw
  refine lv_aload_n hx hb dX7_quotient_0 rfl (lv_at hl 0 rfl) ?_
  refine va_get (D := D) (ci := 7) (v := .ref (q 5)) (C := RX7) (T := TX7) (N := 12) hx hb hg ku_X7 hown hK hP 0 rfl rfl 10 (by decide) (hg _ kf_X7_43) (fun _ h9 => h9) rfl dX7_quotient_1 ?_
  refine lv_iload_n hx hb dX7_quotient_4 rfl (lv_at hl 2 rfl) ?_
  obtain ⟨hi5, hw⟩ := hw
  refine va_iald (D := D) hx hb hK hP 5 0 rfl rfl hi5 dX7_quotient_5 ?_
  refine lv_aload_n hx hb dX7_quotient_6 rfl (lv_at hl 0 rfl) ?_
  refine va_get (D := D) (ci := 7) (v := .ref (q 5)) (C := RX7) (T := TX7) (N := 12) hx hb hg ku_X7 hown hK hP 0 rfl rfl 10 (by decide) (hg _ kf_X7_43) (fun _ h9 => h9) rfl dX7_quotient_7 ?_
  refine lv_iload_n hx hb dX7_quotient_10 rfl (lv_at hl 3 rfl) ?_
  obtain ⟨hi11, hw⟩ := hw
  refine va_iald (D := D) hx hb hK hP 5 0 rfl rfl hi11 dX7_quotient_11 ?_
  refine lv_imul hx hb dX7_quotient_12 ?_
  refine lv_topi (fun x4_13 ex4_13 => ?_)
  have hw := hw x4_13 ex4_13
  refine lv_istore (lv' := [(4, .int x4_13), (0, .ref (q 0)), (1, .int x1), (2, .int x2), (3, .int x3)]) hx hb dX7_quotient_13 hl (by decide) rfl (fun ls hl => ?_)
  refine lv_aload_n hx hb dX7_quotient_15 rfl (lv_at hl 1 rfl) ?_
  refine lv_bipush (v := 54) hx hb dX7_quotient_16 (by decide) ?_
  refine lv_iconst (v := 2) hx hb dX7_quotient_18 (by decide) ?_
  refine lv_iload_n hx hb dX7_quotient_19 rfl (lv_at hl 3 rfl) ?_
  refine lv_imul hx hb dX7_quotient_20 ?_
  refine lv_iconst (v := 2) hx hb dX7_quotient_21 (by decide) ?_
  refine lv_iload_n hx hb dX7_quotient_22 rfl (lv_at hl 4 rfl) ?_
  refine lv_imul hx hb dX7_quotient_23 ?_
  refine lv_iconst (v := 1) hx hb dX7_quotient_24 (by decide) ?_
  refine lv_iadd hx hb dX7_quotient_25 ?_
  refine va_callv (va_runV (As := [.int 54, .int (2 * x2), .int ((2 * x3) + 1)]) (rest := []) ⟨hx, hb, hml, hown, hg⟩ (m_X7_times l D cI q th sz sd ss pr me ab be pi le sg wo 54 (2 * x2) ((2 * x3) + 1) _ hw) (cwV 3 hg (x_gV km_X7_108 ki_X7_times kz_X7_X7_times kn_X7 kk_X7_times) rfl rfl rfl (by decide +kernel) ⟨Nat.le_of_ble_eq_true rfl, Nat.le_of_ble_eq_true rfl⟩) (pre7V hP hK hap [.int 54, .int (2 * x2), .int ((2 * x3) + 1)]) rfl rfl hl.1 rfl (lv_room (Nat.le_of_ble_eq_true rfl)) dX7_quotient_26 ⟨Nat.zero_le _, Nat.zero_le _⟩) hS (fun _ _ h => h) (fun _ h => h) (fun  u t H locs ht hvm hw hP hz1 hk1 hS => ?_)
  obtain ⟨pi_26, le_26, wo_26⟩ := u
  rw [ht] at hP; clear hz1 hk1 ht hvm
  try dsimp only at hw
  try dsimp only at hP
  refine lv_aload_n hx hb dX7_quotient_29 rfl (lv_at hl 1 rfl) ?_
  refine lv_bipush (v := 55) hx hb dX7_quotient_30 (by decide) ?_
  refine lv_iconst (v := 2) hx hb dX7_quotient_32 (by decide) ?_
  refine lv_iload_n hx hb dX7_quotient_33 rfl (lv_at hl 3 rfl) ?_
  refine lv_imul hx hb dX7_quotient_34 ?_
  refine lv_iconst (v := 1) hx hb dX7_quotient_35 (by decide) ?_
  refine lv_iadd hx hb dX7_quotient_36 ?_
  refine lv_iconst (v := 2) hx hb dX7_quotient_37 (by decide) ?_
  refine lv_iload_n hx hb dX7_quotient_38 rfl (lv_at hl 4 rfl) ?_
  refine lv_imul hx hb dX7_quotient_39 ?_
  refine va_callv (va_runV (As := [.int 55, .int ((2 * x2) + 1), .int (2 * x3)]) (rest := []) ⟨hx, hb, hml, hown, hg⟩ (m_X7_times l D cI q th sz sd ss pr me ab be pi_26 le_26 sg wo_26 55 ((2 * x2) + 1) (2 * x3) _ hw) (cwV 3 hg (x_gV km_X7_108 ki_X7_times kz_X7_X7_times kn_X7 kk_X7_times) rfl rfl rfl (by decide +kernel) ⟨Nat.le_of_ble_eq_true rfl, Nat.le_of_ble_eq_true rfl⟩) (pre7V hP hK hap [.int 55, .int ((2 * x2) + 1), .int (2 * x3)]) rfl rfl hl.1 rfl (lv_room (Nat.le_of_ble_eq_true rfl)) dX7_quotient_40 ⟨Nat.zero_le _, Nat.zero_le _⟩) hS (fun _ _ h => h) (fun _ h => h) (fun  u t H locs ht hvm hw hP hz1 hk1 hS => ?_)
  obtain ⟨pi_40, le_40, wo_40⟩ := u
  rw [ht] at hP; clear hz1 hk1 ht hvm
  try dsimp only at hw
  try dsimp only at hP
  refine lv_aload_n hx hb dX7_quotient_43 rfl (lv_at hl 1 rfl) ?_
  refine lv_iconst (v := 2) hx hb dX7_quotient_44 (by decide) ?_
  refine lv_iload_n hx hb dX7_quotient_45 rfl (lv_at hl 2 rfl) ?_
  refine lv_imul hx hb dX7_quotient_46 ?_
  refine lv_bipush (v := 54) hx hb dX7_quotient_47 (by decide) ?_
  refine va_callv (va_runV (As := [.int (2 * x1), .int 54]) (rest := []) ⟨hx, hb, hml, hown, hg⟩ (m_X7_copy l D cI q th sz sd ss pr me ab be pi_40 le_40 sg wo_40 (2 * x1) 54 _ hw) (cwV 2 hg (x_gV km_X7_71 ki_X7_copy kz_X7_X7_copy kn_X7 kk_X7_copy) rfl rfl rfl (by decide +kernel) ⟨Nat.le_of_ble_eq_true rfl, Nat.le_of_ble_eq_true rfl⟩) (pre7V hP hK hap [.int (2 * x1), .int 54]) rfl rfl hl.1 rfl (lv_room (Nat.le_of_ble_eq_true rfl)) dX7_quotient_49 ⟨Nat.zero_le _, Nat.zero_le _⟩) hS (fun _ _ h => h) (fun _ h => h) (fun  u t H locs ht hvm hw hP hz1 hk1 hS => ?_)
  obtain ⟨pi_49, le_49⟩ := u
  rw [ht] at hP; clear hz1 hk1 ht hvm
  try dsimp only at hw
  try dsimp only at hP
  refine lv_aload_n hx hb dX7_quotient_52 rfl (lv_at hl 1 rfl) ?_
  refine lv_iconst (v := 2) hx hb dX7_quotient_53 (by decide) ?_
  refine lv_iload_n hx hb dX7_quotient_54 rfl (lv_at hl 2 rfl) ?_
  refine lv_imul hx hb dX7_quotient_55 ?_
  refine lv_iconst (v := 1) hx hb dX7_quotient_56 (by decide) ?_
  refine lv_iadd hx hb dX7_quotient_57 ?_
  refine lv_bipush (v := 55) hx hb dX7_quotient_58 (by decide) ?_
  refine va_callv (va_runV (As := [.int ((2 * x1) + 1), .int 55]) (rest := []) ⟨hx, hb, hml, hown, hg⟩ (m_X7_copy l D cI q th sz sd ss pr me ab be pi_49 le_49 sg wo_40 ((2 * x1) + 1) 55 _ hw) (cwV 2 hg (x_gV km_X7_71 ki_X7_copy kz_X7_X7_copy kn_X7 kk_X7_copy) rfl rfl rfl (by decide +kernel) ⟨Nat.le_of_ble_eq_true rfl, Nat.le_of_ble_eq_true rfl⟩) (pre7V hP hK hap [.int ((2 * x1) + 1), .int 55]) rfl rfl hl.1 rfl (lv_room (Nat.le_of_ble_eq_true rfl)) dX7_quotient_60 ⟨Nat.zero_le _, Nat.zero_le _⟩) hS (fun _ _ h => h) (fun _ h => h) (fun  u t H locs ht hvm hw hP hz1 hk1 hS => ?_)
  obtain ⟨pi_60, le_60⟩ := u
  rw [ht] at hP; clear hz1 hk1 ht hvm
  try dsimp only at hw
  try dsimp only at hP
  refine lv_aload_n hx hb dX7_quotient_63 rfl (lv_at hl 1 rfl) ?_
  refine va_get (D := D) (ci := 7) (v := .ref (q 5)) (C := RX7) (T := TX7) (N := 12) hx hb hg ku_X7 hown hK hP 0 rfl rfl 10 (by decide) (hg _ kf_X7_43) (fun _ h9 => h9) rfl dX7_quotient_64 ?_
  refine lv_iload_n hx hb dX7_quotient_67 rfl (lv_at hl 2 rfl) ?_
  refine lv_iload hx hb dX7_quotient_68 (lv_at hl 0 rfl) ?_
  obtain ⟨hi70, hw⟩ := hw
  refine va_iast (D := D) hx hb hK hP (D7 hap) hS 5 0 rfl rfl hi70 dX7_quotient_70 (fun H locs hP _ hS => ?_)
  have hP : va_P D vwCl (w7 cI q th sz sd ss pr me ab be pi_60 le_60 (upd sg (x1 : Int32).toNatClampNeg x4_13) wo_40) H := hP
  refine lv_aload_n hx hb dX7_quotient_71 rfl (lv_at hl 1 rfl) ?_
  refine lv_iload_n hx hb dX7_quotient_72 rfl (lv_at hl 2 rfl) ?_
  refine va_callv (va_runV (As := [.int x1]) (rest := []) ⟨hx, hb, hml, hown, hg⟩ (m_X7_lowest l D cI q th sz sd ss pr me ab be pi_60 le_60 (upd sg (x1 : Int32).toNatClampNeg x4_13) wo_40 x1 _ hw) (cwV 1 hg (x_gV km_X7_102 ki_X7_lowest kz_X7_X7_lowest kn_X7 kk_X7_lowest) rfl rfl rfl (by decide +kernel) ⟨Nat.le_of_ble_eq_true rfl, Nat.le_of_ble_eq_true rfl⟩) (pre7V hP hK hap [.int x1]) rfl rfl hl.1 rfl (lv_room (Nat.le_of_ble_eq_true rfl)) dX7_quotient_73 ⟨Nat.zero_le _, Nat.zero_le _⟩) hS (fun _ _ h => h) (fun _ h => h) (fun  u t H locs ht hvm hw hP hz1 hk1 hS => ?_)
  obtain ⟨pi_73, le_73, sg_73, wo_73⟩ := u
  rw [ht] at hP; clear hz1 hk1 ht hvm
  try dsimp only at hw
  try dsimp only at hP
  exact W.vret hx hb hr (fun t ht hW => ⟨⟨(pi_73, le_73, sg_73, wo_73), rfl, hw, by show va_P D vwCl _ t.heap; rw [ht]; exact hP⟩, hS.F ht⟩) hS.2.2 dX7_quotient_76 hlocks
-- ===== ExactFilterModel.cov
abbrev rX7_cov : Room := { frames := 0, cells := 0, slots := 0, locals := 0 }
def wp_X7_cov  (x0 : Int32) (x1 : Int32) (post : Int32 → Prop) : Prop := post ((2 + (2 * x0)) + x1) 
set_option maxHeartbeats 4000000 in
set_option maxRecDepth 100000 in
theorem m_X7_cov (l : Launch) (x0 : Int32) (x1 : Int32) (post : Int32 → Prop) (hw : wp_X7_cov  x0 x1 post) : Met l yX7_cov (wu yX7_cov cX7_cov 2 (some .int)) rX7_cov (va_Pc [.int x0, .int x1] (fun _ => True)) (va_Qi (S := Unit) (fun r _ => post r) (fun _ _ => True) (fun _ => False)) 0 0 (fun _ => False) := by
  refine Met.ofW (cc := cX7_cov) (maxL := 2) (ret := (some .int)) (by decide) rfl ?_
  intro p e s m args below meth c s₁ B hml hv
  obtain ⟨rfl, -⟩ := hv
  have hx := B.exec
  have hb := B.bytes
  have hr := B.returns
  have hlocks := B.notSynchronized
  have hS : va_S (fun _ => False) s.heap s.heap [] := va_S.rf
  have hP : True := trivial
  have hl := lv_entry ([.int x0, .int x1]) (n := 2) (Nat.le_of_ble_eq_true rfl)
  rw [lg_entry_eq]
  generalize (lg_sl ([.int x0, .int x1]) ++ List.replicate (2 - (lg_sl ([.int x0, .int x1])).length) Slot.unset).toArray = ls at hl ⊢
  have hl : lv_has ls 2 [(0, .int x0), (1, .int x1)] := hl
  unfold wp_X7_cov at hw
  refine lv_iconst (v := 2) hx hb dX7_cov_0 (by decide) ?_
  refine lv_iconst (v := 2) hx hb dX7_cov_1 (by decide) ?_
  refine lv_iload_n hx hb dX7_cov_2 rfl (lv_at hl 0 rfl) ?_
  refine lv_imul hx hb dX7_cov_3 ?_
  refine lv_iadd hx hb dX7_cov_4 ?_
  refine lv_iload_n hx hb dX7_cov_5 rfl (lv_at hl 1 rfl) ?_
  refine lv_iadd hx hb dX7_cov_6 ?_
  exact W.iret (v := ((2 + (2 * x0)) + x1)) hx hb hr (fun t ht hW => ⟨⟨((2 + (2 * x0)) + x1), (), rfl, hw, trivial⟩, hS.F ht⟩) hS.2.2 dX7_cov_7 hlocks
-- ===== ExactFilterModel.doPredict
abbrev rX7_doPredict : Room := { frames := 7, cells := 0, slots := 0, locals := 170 }
def wl_X7_doPredict_36 (sz : Int32) (ab : Nat → Int32) (be : Nat → Int32) (post : (Nat → Int32) → (Nat → Int32) → (Nat → Int32) → (Nat → Int32) → Prop) (K95 : (Nat → Int32) → (Nat → Int32) → (Nat → Int32) → (Nat → Int32) → Int32 → Int32 → Prop) : Nat → (Nat → Int32) → (Nat → Int32) → (Nat → Int32) → (Nat → Int32) → Int32 → Int32 → Int32 → Prop
  | 0, _, _, _, _, _, _, _ => False
  | n + 1, pi, le, sg, wo, x1, x2, x3 => (sz ≤ x3 → K95 pi le sg wo x1 x2) ∧ (¬ sz ≤ x3 → wp_X7_model ab be pi le sg wo 20 2 x1 x3 (fun (pi_50 : Nat → Int32) (le_50 : Nat → Int32) (sg_50 : Nat → Int32) (wo_50 : Nat → Int32) => wp_X7_cov  x3 x2 (fun (r_60 : Int32) => wp_X7_multiply pi_50 le_50 sg_50 wo_50 21 20 r_60 (fun (pi_63 : Nat → Int32) (le_63 : Nat → Int32) (sg_63 : Nat → Int32) (wo_63 : Nat → Int32) => wp_X7_add pi_63 le_63 sg_63 wo_63 ((10 + (2 * x1)) + x2) ((10 + (2 * x1)) + x2) 21 1 (fun (pi_86 : Nat → Int32) (le_86 : Nat → Int32) (sg_86 : Nat → Int32) (wo_86 : Nat → Int32) => ∀ (x3_89 : Int32), x3_89 = x3 + 1 → wl_X7_doPredict_36 sz ab be post K95 n pi_86 le_86 sg_86 wo_86 x1 x2 x3_89)))))
def wl_X7_doPredict_12 (sz : Int32) (ab : Nat → Int32) (be : Nat → Int32) (post : (Nat → Int32) → (Nat → Int32) → (Nat → Int32) → (Nat → Int32) → Prop) (K101 : (Nat → Int32) → (Nat → Int32) → (Nat → Int32) → (Nat → Int32) → Int32 → Prop) : Nat → (Nat → Int32) → (Nat → Int32) → (Nat → Int32) → (Nat → Int32) → Int32 → Int32 → Prop
  | 0, _, _, _, _, _, _ => False
  | n + 1, pi, le, sg, wo, x1, x2 => (sz ≤ x2 → K101 pi le sg wo x1) ∧ (¬ sz ≤ x2 → wp_X7_fraction pi le sg wo ((10 + (2 * x1)) + x2) 0 1 (fun (pi_31 : Nat → Int32) (le_31 : Nat → Int32) (sg_31 : Nat → Int32) (wo_31 : Nat → Int32) => ∃ n36 : Nat, wl_X7_doPredict_36 sz ab be post (fun (pi : Nat → Int32) (le : Nat → Int32) (sg : Nat → Int32) (wo : Nat → Int32) (x1 : Int32) (x2 : Int32) => ∀ (x2_95 : Int32), x2_95 = x2 + 1 → wl_X7_doPredict_12 sz ab be post K101 n pi le sg wo x1 x2_95) n36 pi_31 le_31 sg_31 wo_31 x1 x2 0))
def wl_X7_doPredict_2 (sz : Int32) (ab : Nat → Int32) (be : Nat → Int32) (post : (Nat → Int32) → (Nat → Int32) → (Nat → Int32) → (Nat → Int32) → Prop) (K107 : (Nat → Int32) → (Nat → Int32) → (Nat → Int32) → (Nat → Int32) → Prop) : Nat → (Nat → Int32) → (Nat → Int32) → (Nat → Int32) → (Nat → Int32) → Int32 → Prop
  | 0, _, _, _, _, _ => False
  | n + 1, pi, le, sg, wo, x1 => (sz ≤ x1 → K107 pi le sg wo) ∧ (¬ sz ≤ x1 → ∃ n12 : Nat, wl_X7_doPredict_12 sz ab be post (fun (pi : Nat → Int32) (le : Nat → Int32) (sg : Nat → Int32) (wo : Nat → Int32) (x1 : Int32) => ∀ (x1_101 : Int32), x1_101 = x1 + 1 → wl_X7_doPredict_2 sz ab be post K107 n pi le sg wo x1_101) n12 pi le sg wo x1 0)
def wl_X7_doPredict_138 (sz : Int32) (ab : Nat → Int32) (be : Nat → Int32) (post : (Nat → Int32) → (Nat → Int32) → (Nat → Int32) → (Nat → Int32) → Prop) (K188 : (Nat → Int32) → (Nat → Int32) → (Nat → Int32) → (Nat → Int32) → Int32 → Int32 → Prop) : Nat → (Nat → Int32) → (Nat → Int32) → (Nat → Int32) → (Nat → Int32) → Int32 → Int32 → Int32 → Prop
  | 0, _, _, _, _, _, _, _ => False
  | n + 1, pi, le, sg, wo, x1, x2, x3 => (sz ≤ x3 → K188 pi le sg wo x1 x2) ∧ (¬ sz ≤ x3 → wp_X7_model ab be pi le sg wo 20 2 x2 x3 (fun (pi_152 : Nat → Int32) (le_152 : Nat → Int32) (sg_152 : Nat → Int32) (wo_152 : Nat → Int32) => wp_X7_multiply pi_152 le_152 sg_152 wo_152 21 ((10 + (2 * x1)) + x3) 20 (fun (pi_168 : Nat → Int32) (le_168 : Nat → Int32) (sg_168 : Nat → Int32) (wo_168 : Nat → Int32) => wp_X7_add pi_168 le_168 sg_168 wo_168 14 14 21 1 (fun (pi_179 : Nat → Int32) (le_179 : Nat → Int32) (sg_179 : Nat → Int32) (wo_179 : Nat → Int32) => ∀ (x3_182 : Int32), x3_182 = x3 + 1 → wl_X7_doPredict_138 sz ab be post K188 n pi_179 le_179 sg_179 wo_179 x1 x2 x3_182))))
def wl_X7_doPredict_119 (sz : Int32) (ab : Nat → Int32) (be : Nat → Int32) (post : (Nat → Int32) → (Nat → Int32) → (Nat → Int32) → (Nat → Int32) → Prop) (K205 : (Nat → Int32) → (Nat → Int32) → (Nat → Int32) → (Nat → Int32) → Int32 → Prop) : Nat → (Nat → Int32) → (Nat → Int32) → (Nat → Int32) → (Nat → Int32) → Int32 → Int32 → Prop
  | 0, _, _, _, _, _, _ => False
  | n + 1, pi, le, sg, wo, x1, x2 => (sz ≤ x2 → K205 pi le sg wo x1) ∧ (¬ sz ≤ x2 → wp_X7_model ab be pi le sg wo 14 4 x1 x2 (fun (pi_133 : Nat → Int32) (le_133 : Nat → Int32) (sg_133 : Nat → Int32) (wo_133 : Nat → Int32) => ∃ n138 : Nat, wl_X7_doPredict_138 sz ab be post (fun (pi : Nat → Int32) (le : Nat → Int32) (sg : Nat → Int32) (wo : Nat → Int32) (x1 : Int32) (x2 : Int32) => wp_X7_cov  x1 x2 (fun (r_191 : Int32) => wp_X7_same pi le sg r_191 14 (fun (pi_196 : Nat → Int32) (le_196 : Nat → Int32) (sg_196 : Nat → Int32) => ∀ (x2_199 : Int32), x2_199 = x2 + 1 → wl_X7_doPredict_119 sz ab be post K205 n pi_196 le_196 sg_196 wo x1 x2_199))) n138 pi_133 le_133 sg_133 wo_133 x1 x2 0))
def wl_X7_doPredict_109 (sz : Int32) (ab : Nat → Int32) (be : Nat → Int32) (post : (Nat → Int32) → (Nat → Int32) → (Nat → Int32) → (Nat → Int32) → Prop) (K211 : (Nat → Int32) → (Nat → Int32) → (Nat → Int32) → (Nat → Int32) → Prop) : Nat → (Nat → Int32) → (Nat → Int32) → (Nat → Int32) → (Nat → Int32) → Int32 → Prop
  | 0, _, _, _, _, _ => False
  | n + 1, pi, le, sg, wo, x1 => (sz ≤ x1 → K211 pi le sg wo) ∧ (¬ sz ≤ x1 → ∃ n119 : Nat, wl_X7_doPredict_119 sz ab be post (fun (pi : Nat → Int32) (le : Nat → Int32) (sg : Nat → Int32) (wo : Nat → Int32) (x1 : Int32) => ∀ (x1_205 : Int32), x1_205 = x1 + 1 → wl_X7_doPredict_109 sz ab be post K211 n pi le sg wo x1_205) n119 pi le sg wo x1 0)
def wl_X7_doPredict_234 (sz : Int32) (ab : Nat → Int32) (be : Nat → Int32) (post : (Nat → Int32) → (Nat → Int32) → (Nat → Int32) → (Nat → Int32) → Prop) (K281 : (Nat → Int32) → (Nat → Int32) → (Nat → Int32) → (Nat → Int32) → Int32 → Prop) : Nat → (Nat → Int32) → (Nat → Int32) → (Nat → Int32) → (Nat → Int32) → Int32 → Int32 → Prop
  | 0, _, _, _, _, _, _ => False
  | n + 1, pi, le, sg, wo, x1, x2 => (sz ≤ x2 → K281 pi le sg wo x1) ∧ (¬ sz ≤ x2 → wp_X7_model ab be pi le sg wo 20 2 x1 x2 (fun (pi_248 : Nat → Int32) (le_248 : Nat → Int32) (sg_248 : Nat → Int32) (wo_248 : Nat → Int32) => wp_X7_multiply pi_248 le_248 sg_248 wo_248 21 20 x2 (fun (pi_257 : Nat → Int32) (le_257 : Nat → Int32) (sg_257 : Nat → Int32) (wo_257 : Nat → Int32) => wp_X7_add pi_257 le_257 sg_257 wo_257 (10 + x1) (10 + x1) 21 1 (fun (pi_272 : Nat → Int32) (le_272 : Nat → Int32) (sg_272 : Nat → Int32) (wo_272 : Nat → Int32) => ∀ (x2_275 : Int32), x2_275 = x2 + 1 → wl_X7_doPredict_234 sz ab be post K281 n pi_272 le_272 sg_272 wo_272 x1 x2_275))))
def wl_X7_doPredict_213 (sz : Int32) (ab : Nat → Int32) (be : Nat → Int32) (post : (Nat → Int32) → (Nat → Int32) → (Nat → Int32) → (Nat → Int32) → Prop) (K287 : (Nat → Int32) → (Nat → Int32) → (Nat → Int32) → (Nat → Int32) → Prop) : Nat → (Nat → Int32) → (Nat → Int32) → (Nat → Int32) → (Nat → Int32) → Int32 → Prop
  | 0, _, _, _, _, _ => False
  | n + 1, pi, le, sg, wo, x1 => (sz ≤ x1 → K287 pi le sg wo) ∧ (¬ sz ≤ x1 → wp_X7_model ab be pi le sg wo (10 + x1) 3 x1 0 (fun (pi_229 : Nat → Int32) (le_229 : Nat → Int32) (sg_229 : Nat → Int32) (wo_229 : Nat → Int32) => ∃ n234 : Nat, wl_X7_doPredict_234 sz ab be post (fun (pi : Nat → Int32) (le : Nat → Int32) (sg : Nat → Int32) (wo : Nat → Int32) (x1 : Int32) => ∀ (x1_281 : Int32), x1_281 = x1 + 1 → wl_X7_doPredict_213 sz ab be post K287 n pi le sg wo x1_281) n234 pi_229 le_229 sg_229 wo_229 x1 0))
def wl_X7_doPredict_289 (sz : Int32) (ab : Nat → Int32) (be : Nat → Int32) (post : (Nat → Int32) → (Nat → Int32) → (Nat → Int32) → (Nat → Int32) → Prop) (K312 : (Nat → Int32) → (Nat → Int32) → (Nat → Int32) → (Nat → Int32) → Prop) : Nat → (Nat → Int32) → (Nat → Int32) → (Nat → Int32) → (Nat → Int32) → Int32 → Prop
  | 0, _, _, _, _, _ => False
  | n + 1, pi, le, sg, wo, x1 => (sz ≤ x1 → K312 pi le sg wo) ∧ (¬ sz ≤ x1 → wp_X7_same pi le sg x1 (10 + x1) (fun (pi_303 : Nat → Int32) (le_303 : Nat → Int32) (sg_303 : Nat → Int32) => ∀ (x1_306 : Int32), x1_306 = x1 + 1 → wl_X7_doPredict_289 sz ab be post K312 n pi_303 le_303 sg_303 wo x1_306))
def wp_X7_doPredict (sz : Int32) (ab : Nat → Int32) (be : Nat → Int32) (pi : Nat → Int32) (le : Nat → Int32) (sg : Nat → Int32) (wo : Nat → Int32)  (post : (Nat → Int32) → (Nat → Int32) → (Nat → Int32) → (Nat → Int32) → Prop) : Prop := ∃ n2 : Nat, wl_X7_doPredict_2 sz ab be post (fun (pi : Nat → Int32) (le : Nat → Int32) (sg : Nat → Int32) (wo : Nat → Int32) => ∃ n109 : Nat, wl_X7_doPredict_109 sz ab be post (fun (pi : Nat → Int32) (le : Nat → Int32) (sg : Nat → Int32) (wo : Nat → Int32) => ∃ n213 : Nat, wl_X7_doPredict_213 sz ab be post (fun (pi : Nat → Int32) (le : Nat → Int32) (sg : Nat → Int32) (wo : Nat → Int32) => ∃ n289 : Nat, wl_X7_doPredict_289 sz ab be post (fun (pi : Nat → Int32) (le : Nat → Int32) (sg : Nat → Int32) (wo : Nat → Int32) => post pi le sg wo) n289 pi le sg wo 0) n213 pi le sg wo 0) n109 pi le sg wo 0) n2 pi le sg wo 0
set_option maxHeartbeats 4000000 in
set_option maxRecDepth 100000 in
theorem ml_X7_doPredict_36 (C : C7 p s m args meth c D cI q cX7_doPredict 4 none) (th : Int32) (sz : Int32) (sd : Int32) (ss : Int32) (pr : Int32) (me : Int32) (ab : Nat → Int32) (be : Nat → Int32) (post : (Nat → Int32) → (Nat → Int32) → (Nat → Int32) → (Nat → Int32) → Prop) (K95 : (Nat → Int32) → (Nat → Int32) → (Nat → Int32) → (Nat → Int32) → Int32 → Int32 → Prop)
    (hK95 : (∀ (pi : Nat → Int32) (le : Nat → Int32) (sg : Nat → Int32) (wo : Nat → Int32) (x1 : Int32) (x2 : Int32) (H : Heap) (locs : List Loc) (ls : Array Slot), K95 pi le sg wo x1 x2 → va_P D vwCl (w7 cI q th sz sd ss pr me ab be pi le sg wo) H → va_S (A7 q) s.heap H locs → lv_has ls 4 [(0, .ref (q 0)), (1, .int x1), (2, .int x2)] → W p l e rX7_doPredict s m args below meth c H locs 0 0 (MQ below (va_Qv (S := (Nat → Int32) × (Nat → Int32) × (Nat → Int32) × (Nat → Int32)) (fun u => post u.1 u.2.1 u.2.2.1 u.2.2.2) (fun u t => va_P D vwCl (w7 cI q th sz sd ss pr me ab be u.1 u.2.1 u.2.2.1 u.2.2.2) t.heap) (A7 q)) args s 0 0 (A7 q)) (F0 m 95 ls []))) :
    ∀ (n : Nat) (pi : Nat → Int32) (le : Nat → Int32) (sg : Nat → Int32) (wo : Nat → Int32) (x1 : Int32) (x2 : Int32) (x3 : Int32) (H : Heap) (locs : List Loc) (ls : Array Slot), wl_X7_doPredict_36 sz ab be post K95 n pi le sg wo x1 x2 x3 → va_P D vwCl (w7 cI q th sz sd ss pr me ab be pi le sg wo) H → va_S (A7 q) s.heap H locs → lv_has ls 4 [(0, .ref (q 0)), (1, .int x1), (2, .int x2), (3, .int x3)] → W p l e rX7_doPredict s m args below meth c H locs 0 0 (MQ below (va_Qv (S := (Nat → Int32) × (Nat → Int32) × (Nat → Int32) × (Nat → Int32)) (fun u => post u.1 u.2.1 u.2.2.1 u.2.2.2) (fun u t => va_P D vwCl (w7 cI q th sz sd ss pr me ab be u.1 u.2.1 u.2.2.1 u.2.2.2) t.heap) (A7 q)) args s 0 0 (A7 q)) (F0 m 36 ls []) := by
  obtain ⟨hx, hb, hr, hml, hown, hg, hlocks, hK, hap⟩ := id C
  intro n
  induction n with
  | zero => intro pi le sg wo x1 x2 x3 H locs ls hw; exact absurd hw id
  | succ n ih =>
    intro pi le sg wo x1 x2 x3 H locs ls hw hP hS hl
    refine lv_iload_n hx hb dX7_doPredict_36 rfl (lv_at hl 3 rfl) ?_
    refine lv_aload_n hx hb dX7_doPredict_37 rfl (lv_at hl 0 rfl) ?_
    refine va_get (D := D) (ci := 7) (v := .int sz) (C := RX7) (T := TX7) (N := 12) hx hb hg ku_X7 hown hK hP 0 rfl rfl 1 (by decide) (hg _ kf_X7_13) (fun _ h9 => h9) rfl dX7_doPredict_38 ?_
    refine lv_icmp_ge (tgt := 95) hx hb dX7_doPredict_41 (by decide) (fun hc41 => ?_) (fun hc41 => ?_)
    · have hw := hw.1 hc41
      exact hK95 _ _ _ _ _ _ _ _ _ hw hP hS (lv_sub hl [0, 1, 2] rfl)
    · have hw := hw.2 hc41
      refine lv_aload_n hx hb dX7_doPredict_44 rfl (lv_at hl 0 rfl) ?_
      refine lv_bipush (v := 20) hx hb dX7_doPredict_45 (by decide) ?_
      refine lv_iconst (v := 2) hx hb dX7_doPredict_47 (by decide) ?_
      refine lv_iload_n hx hb dX7_doPredict_48 rfl (lv_at hl 1 rfl) ?_
      refine lv_iload_n hx hb dX7_doPredict_49 rfl (lv_at hl 3 rfl) ?_
      refine va_callv (va_runV (As := [.int 20, .int 2, .int x1, .int x3]) (rest := []) ⟨hx, hb, hml, hown, hg⟩ (m_X7_model l D cI q th sz sd ss pr me ab be pi le sg wo 20 2 x1 x3 _ hw) (cwV 4 hg (x_gV km_X7_117 ki_X7_model kz_X7_X7_model kn_X7 kk_X7_model) rfl rfl rfl (by decide +kernel) ⟨Nat.le_of_ble_eq_true rfl, Nat.le_of_ble_eq_true rfl⟩) (pre7V hP hK hap [.int 20, .int 2, .int x1, .int x3]) rfl rfl hl.1 rfl (lv_room (Nat.le_of_ble_eq_true rfl)) dX7_doPredict_50 ⟨Nat.zero_le _, Nat.zero_le _⟩) hS (fun _ _ h => h) (fun _ h => h) (fun  u t H locs ht hvm hw hP hz1 hk1 hS => ?_)
      obtain ⟨pi_50, le_50, sg_50, wo_50⟩ := u
      rw [ht] at hP; clear hz1 hk1 ht hvm
      try dsimp only at hw
      try dsimp only at hP
      refine lv_aload_n hx hb dX7_doPredict_53 rfl (lv_at hl 0 rfl) ?_
      refine lv_bipush (v := 21) hx hb dX7_doPredict_54 (by decide) ?_
      refine lv_bipush (v := 20) hx hb dX7_doPredict_56 (by decide) ?_
      refine lv_iload_n hx hb dX7_doPredict_58 rfl (lv_at hl 3 rfl) ?_
      refine lv_iload_n hx hb dX7_doPredict_59 rfl (lv_at hl 2 rfl) ?_
      refine va_calli (va_runS (As := [.int x3, .int x2]) (rest := [.int 20, .int 21, .ref (q 0)]) ⟨hx, hb, hml, hown, hg⟩ (m_X7_cov l x3 x2 _ hw) (va_cwS 2 hg (x_gS km_X7_121 ks_X7_cov kn_X7 kk_X7_cov) rfl rfl rfl (by decide +kernel) ⟨Nat.le_of_ble_eq_true rfl, Nat.le_of_ble_eq_true rfl⟩) pre7S rfl rfl hl.1 rfl (lv_room (Nat.le_of_ble_eq_true rfl)) dX7_doPredict_60 ⟨Nat.zero_le _, Nat.zero_le _⟩) hS (fun _ _ h => h.elim) (fun _ h => h.elim) (fun r_60 u t H1 locs1 ht hvm hw hB hz1 hk1 hS => ?_)
      have hP := hP.kept (fun k9 q9 h9 => hk1 q9.1 ((hP k9 q9 h9).lt) (fun z => z.elim))
      clear hB; generalize H1 = H at hP hS ⊢; generalize locs1 = locs at hS ⊢; try dsimp only at hw
      refine va_callv (va_runV (As := [.int 21, .int 20, .int r_60]) (rest := []) ⟨hx, hb, hml, hown, hg⟩ (m_X7_multiply l D cI q th sz sd ss pr me ab be pi_50 le_50 sg_50 wo_50 21 20 r_60 _ hw) (cwV 3 hg (x_gV km_X7_124 ki_X7_multiply kz_X7_X7_multiply kn_X7 kk_X7_multiply) rfl rfl rfl (by decide +kernel) ⟨Nat.le_of_ble_eq_true rfl, Nat.le_of_ble_eq_true rfl⟩) (pre7V hP hK hap [.int 21, .int 20, .int r_60]) rfl rfl hl.1 rfl (lv_room (Nat.le_of_ble_eq_true rfl)) dX7_doPredict_63 ⟨Nat.zero_le _, Nat.zero_le _⟩) hS (fun _ _ h => h) (fun _ h => h) (fun  u t H locs ht hvm hw hP hz1 hk1 hS => ?_)
      obtain ⟨pi_63, le_63, sg_63, wo_63⟩ := u
      rw [ht] at hP; clear hz1 hk1 ht hvm
      try dsimp only at hw
      try dsimp only at hP
      refine lv_aload_n hx hb dX7_doPredict_66 rfl (lv_at hl 0 rfl) ?_
      refine lv_bipush (v := 10) hx hb dX7_doPredict_67 (by decide) ?_
      refine lv_iconst (v := 2) hx hb dX7_doPredict_69 (by decide) ?_
      refine lv_iload_n hx hb dX7_doPredict_70 rfl (lv_at hl 1 rfl) ?_
      refine lv_imul hx hb dX7_doPredict_71 ?_
      refine lv_iadd hx hb dX7_doPredict_72 ?_
      refine lv_iload_n hx hb dX7_doPredict_73 rfl (lv_at hl 2 rfl) ?_
      refine lv_iadd hx hb dX7_doPredict_74 ?_
      refine lv_bipush (v := 10) hx hb dX7_doPredict_75 (by decide) ?_
      refine lv_iconst (v := 2) hx hb dX7_doPredict_77 (by decide) ?_
      refine lv_iload_n hx hb dX7_doPredict_78 rfl (lv_at hl 1 rfl) ?_
      refine lv_imul hx hb dX7_doPredict_79 ?_
      refine lv_iadd hx hb dX7_doPredict_80 ?_
      refine lv_iload_n hx hb dX7_doPredict_81 rfl (lv_at hl 2 rfl) ?_
      refine lv_iadd hx hb dX7_doPredict_82 ?_
      refine lv_bipush (v := 21) hx hb dX7_doPredict_83 (by decide) ?_
      refine lv_iconst (v := 1) hx hb dX7_doPredict_85 (by decide) ?_
      refine va_callv (va_runV (As := [.int ((10 + (2 * x1)) + x2), .int ((10 + (2 * x1)) + x2), .int 21, .int 1]) (rest := []) ⟨hx, hb, hml, hown, hg⟩ (m_X7_add l D cI q th sz sd ss pr me ab be pi_63 le_63 sg_63 wo_63 ((10 + (2 * x1)) + x2) ((10 + (2 * x1)) + x2) 21 1 _ hw) (cwV 4 hg (x_gV km_X7_127 ki_X7_add kz_X7_X7_add kn_X7 kk_X7_add) rfl rfl rfl (by decide +kernel) ⟨Nat.le_of_ble_eq_true rfl, Nat.le_of_ble_eq_true rfl⟩) (pre7V hP hK hap [.int ((10 + (2 * x1)) + x2), .int ((10 + (2 * x1)) + x2), .int 21, .int 1]) rfl rfl hl.1 rfl (lv_room (Nat.le_of_ble_eq_true rfl)) dX7_doPredict_86 ⟨Nat.zero_le _, Nat.zero_le _⟩) hS (fun _ _ h => h) (fun _ h => h) (fun  u t H locs ht hvm hw hP hz1 hk1 hS => ?_)
      obtain ⟨pi_86, le_86, sg_86, wo_86⟩ := u
      rw [ht] at hP; clear hz1 hk1 ht hvm
      try dsimp only at hw
      try dsimp only at hP
      obtain ⟨x3_89, ex3_89⟩ : ∃ y : Int32, y = x3 + 1 := ⟨_, rfl⟩
      have hw := hw x3_89 ex3_89
      refine lv_iinc (v := x3_89) (lv' := [(3, .int x3_89), (0, .ref (q 0)), (1, .int x1), (2, .int x2)]) hx hb dX7_doPredict_89 hl (k := 3) rfl (by rw [ex3_89]; rfl) (by decide) rfl (fun ls hl => ?_)
      refine lv_goto (tgt := 36) hx hb dX7_doPredict_92 (by decide) ?_
      exact ih _ _ _ _ _ _ _ _ _ _ hw hP hS (lv_sub hl [1, 2, 3, 0] rfl)
set_option maxHeartbeats 4000000 in
set_option maxRecDepth 100000 in
theorem ml_X7_doPredict_12 (C : C7 p s m args meth c D cI q cX7_doPredict 4 none) (th : Int32) (sz : Int32) (sd : Int32) (ss : Int32) (pr : Int32) (me : Int32) (ab : Nat → Int32) (be : Nat → Int32) (post : (Nat → Int32) → (Nat → Int32) → (Nat → Int32) → (Nat → Int32) → Prop) (K101 : (Nat → Int32) → (Nat → Int32) → (Nat → Int32) → (Nat → Int32) → Int32 → Prop)
    (hK101 : (∀ (pi : Nat → Int32) (le : Nat → Int32) (sg : Nat → Int32) (wo : Nat → Int32) (x1 : Int32) (H : Heap) (locs : List Loc) (ls : Array Slot), K101 pi le sg wo x1 → va_P D vwCl (w7 cI q th sz sd ss pr me ab be pi le sg wo) H → va_S (A7 q) s.heap H locs → lv_has ls 4 [(0, .ref (q 0)), (1, .int x1)] → W p l e rX7_doPredict s m args below meth c H locs 0 0 (MQ below (va_Qv (S := (Nat → Int32) × (Nat → Int32) × (Nat → Int32) × (Nat → Int32)) (fun u => post u.1 u.2.1 u.2.2.1 u.2.2.2) (fun u t => va_P D vwCl (w7 cI q th sz sd ss pr me ab be u.1 u.2.1 u.2.2.1 u.2.2.2) t.heap) (A7 q)) args s 0 0 (A7 q)) (F0 m 101 ls []))) :
    ∀ (n : Nat) (pi : Nat → Int32) (le : Nat → Int32) (sg : Nat → Int32) (wo : Nat → Int32) (x1 : Int32) (x2 : Int32) (H : Heap) (locs : List Loc) (ls : Array Slot), wl_X7_doPredict_12 sz ab be post K101 n pi le sg wo x1 x2 → va_P D vwCl (w7 cI q th sz sd ss pr me ab be pi le sg wo) H → va_S (A7 q) s.heap H locs → lv_has ls 4 [(0, .ref (q 0)), (1, .int x1), (2, .int x2)] → W p l e rX7_doPredict s m args below meth c H locs 0 0 (MQ below (va_Qv (S := (Nat → Int32) × (Nat → Int32) × (Nat → Int32) × (Nat → Int32)) (fun u => post u.1 u.2.1 u.2.2.1 u.2.2.2) (fun u t => va_P D vwCl (w7 cI q th sz sd ss pr me ab be u.1 u.2.1 u.2.2.1 u.2.2.2) t.heap) (A7 q)) args s 0 0 (A7 q)) (F0 m 12 ls []) := by
  obtain ⟨hx, hb, hr, hml, hown, hg, hlocks, hK, hap⟩ := id C
  intro n
  induction n with
  | zero => intro pi le sg wo x1 x2 H locs ls hw; exact absurd hw id
  | succ n ih =>
    intro pi le sg wo x1 x2 H locs ls hw hP hS hl
    refine lv_iload_n hx hb dX7_doPredict_12 rfl (lv_at hl 2 rfl) ?_
    refine lv_aload_n hx hb dX7_doPredict_13 rfl (lv_at hl 0 rfl) ?_
    refine va_get (D := D) (ci := 7) (v := .int sz) (C := RX7) (T := TX7) (N := 12) hx hb hg ku_X7 hown hK hP 0 rfl rfl 1 (by decide) (hg _ kf_X7_13) (fun _ h9 => h9) rfl dX7_doPredict_14 ?_
    refine lv_icmp_ge (tgt := 101) hx hb dX7_doPredict_17 (by decide) (fun hc17 => ?_) (fun hc17 => ?_)
    · have hw := hw.1 hc17
      exact hK101 _ _ _ _ _ _ _ _ hw hP hS (lv_sub hl [0, 1] rfl)
    · have hw := hw.2 hc17
      refine lv_aload_n hx hb dX7_doPredict_20 rfl (lv_at hl 0 rfl) ?_
      refine lv_bipush (v := 10) hx hb dX7_doPredict_21 (by decide) ?_
      refine lv_iconst (v := 2) hx hb dX7_doPredict_23 (by decide) ?_
      refine lv_iload_n hx hb dX7_doPredict_24 rfl (lv_at hl 1 rfl) ?_
      refine lv_imul hx hb dX7_doPredict_25 ?_
      refine lv_iadd hx hb dX7_doPredict_26 ?_
      refine lv_iload_n hx hb dX7_doPredict_27 rfl (lv_at hl 2 rfl) ?_
      refine lv_iadd hx hb dX7_doPredict_28 ?_
      refine lv_iconst (v := 0) hx hb dX7_doPredict_29 (by decide) ?_
      refine lv_iconst (v := 1) hx hb dX7_doPredict_30 (by decide) ?_
      refine va_callv (va_runV (As := [.int ((10 + (2 * x1)) + x2), .int 0, .int 1]) (rest := []) ⟨hx, hb, hml, hown, hg⟩ (m_X7_fraction l D cI q th sz sd ss pr me ab be pi le sg wo ((10 + (2 * x1)) + x2) 0 1 _ hw) (cwV 3 hg (x_gV km_X7_105 ki_X7_fraction kz_X7_X7_fraction kn_X7 kk_X7_fraction) rfl rfl rfl (by decide +kernel) ⟨Nat.le_of_ble_eq_true rfl, Nat.le_of_ble_eq_true rfl⟩) (pre7V hP hK hap [.int ((10 + (2 * x1)) + x2), .int 0, .int 1]) rfl rfl hl.1 rfl (lv_room (Nat.le_of_ble_eq_true rfl)) dX7_doPredict_31 ⟨Nat.zero_le _, Nat.zero_le _⟩) hS (fun _ _ h => h) (fun _ h => h) (fun  u t H locs ht hvm hw hP hz1 hk1 hS => ?_)
      obtain ⟨pi_31, le_31, sg_31, wo_31⟩ := u
      rw [ht] at hP; clear hz1 hk1 ht hvm
      try dsimp only at hw
      try dsimp only at hP
      refine lv_iconst (v := 0) hx hb dX7_doPredict_34 (by decide) ?_
      refine lv_istore_n (lv' := [(3, .int 0), (0, .ref (q 0)), (1, .int x1), (2, .int x2)]) hx hb dX7_doPredict_35 rfl hl (by decide) rfl (fun ls hl => ?_)
      obtain ⟨n36, hw⟩ := hw
      refine ml_X7_doPredict_36 C th sz sd ss pr me ab be post _ ?_ n36 _ _ _ _ _ _ _ _ _ _ hw hP hS (lv_sub hl [1, 2, 3, 0] rfl)
      · intro pi le sg wo x1 x2 H locs ls hw hP hS hl
        obtain ⟨x2_95, ex2_95⟩ : ∃ y : Int32, y = x2 + 1 := ⟨_, rfl⟩
        have hw := hw x2_95 ex2_95
        refine lv_iinc (v := x2_95) (lv' := [(2, .int x2_95), (0, .ref (q 0)), (1, .int x1)]) hx hb dX7_doPredict_95 hl (k := 2) rfl (by rw [ex2_95]; rfl) (by decide) rfl (fun ls hl => ?_)
        refine lv_goto (tgt := 12) hx hb dX7_doPredict_98 (by decide) ?_
        exact ih _ _ _ _ _ _ _ _ _ hw hP hS (lv_sub hl [1, 2, 0] rfl)
set_option maxHeartbeats 4000000 in
set_option maxRecDepth 100000 in
theorem ml_X7_doPredict_2 (C : C7 p s m args meth c D cI q cX7_doPredict 4 none) (th : Int32) (sz : Int32) (sd : Int32) (ss : Int32) (pr : Int32) (me : Int32) (ab : Nat → Int32) (be : Nat → Int32) (post : (Nat → Int32) → (Nat → Int32) → (Nat → Int32) → (Nat → Int32) → Prop) (K107 : (Nat → Int32) → (Nat → Int32) → (Nat → Int32) → (Nat → Int32) → Prop)
    (hK107 : (∀ (pi : Nat → Int32) (le : Nat → Int32) (sg : Nat → Int32) (wo : Nat → Int32) (H : Heap) (locs : List Loc) (ls : Array Slot), K107 pi le sg wo → va_P D vwCl (w7 cI q th sz sd ss pr me ab be pi le sg wo) H → va_S (A7 q) s.heap H locs → lv_has ls 4 [(0, .ref (q 0))] → W p l e rX7_doPredict s m args below meth c H locs 0 0 (MQ below (va_Qv (S := (Nat → Int32) × (Nat → Int32) × (Nat → Int32) × (Nat → Int32)) (fun u => post u.1 u.2.1 u.2.2.1 u.2.2.2) (fun u t => va_P D vwCl (w7 cI q th sz sd ss pr me ab be u.1 u.2.1 u.2.2.1 u.2.2.2) t.heap) (A7 q)) args s 0 0 (A7 q)) (F0 m 107 ls []))) :
    ∀ (n : Nat) (pi : Nat → Int32) (le : Nat → Int32) (sg : Nat → Int32) (wo : Nat → Int32) (x1 : Int32) (H : Heap) (locs : List Loc) (ls : Array Slot), wl_X7_doPredict_2 sz ab be post K107 n pi le sg wo x1 → va_P D vwCl (w7 cI q th sz sd ss pr me ab be pi le sg wo) H → va_S (A7 q) s.heap H locs → lv_has ls 4 [(0, .ref (q 0)), (1, .int x1)] → W p l e rX7_doPredict s m args below meth c H locs 0 0 (MQ below (va_Qv (S := (Nat → Int32) × (Nat → Int32) × (Nat → Int32) × (Nat → Int32)) (fun u => post u.1 u.2.1 u.2.2.1 u.2.2.2) (fun u t => va_P D vwCl (w7 cI q th sz sd ss pr me ab be u.1 u.2.1 u.2.2.1 u.2.2.2) t.heap) (A7 q)) args s 0 0 (A7 q)) (F0 m 2 ls []) := by
  obtain ⟨hx, hb, hr, hml, hown, hg, hlocks, hK, hap⟩ := id C
  intro n
  induction n with
  | zero => intro pi le sg wo x1 H locs ls hw; exact absurd hw id
  | succ n ih =>
    intro pi le sg wo x1 H locs ls hw hP hS hl
    refine lv_iload_n hx hb dX7_doPredict_2 rfl (lv_at hl 1 rfl) ?_
    refine lv_aload_n hx hb dX7_doPredict_3 rfl (lv_at hl 0 rfl) ?_
    refine va_get (D := D) (ci := 7) (v := .int sz) (C := RX7) (T := TX7) (N := 12) hx hb hg ku_X7 hown hK hP 0 rfl rfl 1 (by decide) (hg _ kf_X7_13) (fun _ h9 => h9) rfl dX7_doPredict_4 ?_
    refine lv_icmp_ge (tgt := 107) hx hb dX7_doPredict_7 (by decide) (fun hc7 => ?_) (fun hc7 => ?_)
    · have hw := hw.1 hc7
      exact hK107 _ _ _ _ _ _ _ hw hP hS (lv_sub hl [0] rfl)
    · have hw := hw.2 hc7
      refine lv_iconst (v := 0) hx hb dX7_doPredict_10 (by decide) ?_
      refine lv_istore_n (lv' := [(2, .int 0), (0, .ref (q 0)), (1, .int x1)]) hx hb dX7_doPredict_11 rfl hl (by decide) rfl (fun ls hl => ?_)
      obtain ⟨n12, hw⟩ := hw
      refine ml_X7_doPredict_12 C th sz sd ss pr me ab be post _ ?_ n12 _ _ _ _ _ _ _ _ _ hw hP hS (lv_sub hl [1, 2, 0] rfl)
      · intro pi le sg wo x1 H locs ls hw hP hS hl
        obtain ⟨x1_101, ex1_101⟩ : ∃ y : Int32, y = x1 + 1 := ⟨_, rfl⟩
        have hw := hw x1_101 ex1_101
        refine lv_iinc (v := x1_101) (lv' := [(1, .int x1_101), (0, .ref (q 0))]) hx hb dX7_doPredict_101 hl (k := 1) rfl (by rw [ex1_101]; rfl) (by decide) rfl (fun ls hl => ?_)
        refine lv_goto (tgt := 2) hx hb dX7_doPredict_104 (by decide) ?_
        exact ih _ _ _ _ _ _ _ _ hw hP hS (lv_sub hl [1, 0] rfl)
set_option maxHeartbeats 4000000 in
set_option maxRecDepth 100000 in
theorem ml_X7_doPredict_138 (C : C7 p s m args meth c D cI q cX7_doPredict 4 none) (th : Int32) (sz : Int32) (sd : Int32) (ss : Int32) (pr : Int32) (me : Int32) (ab : Nat → Int32) (be : Nat → Int32) (post : (Nat → Int32) → (Nat → Int32) → (Nat → Int32) → (Nat → Int32) → Prop) (K188 : (Nat → Int32) → (Nat → Int32) → (Nat → Int32) → (Nat → Int32) → Int32 → Int32 → Prop)
    (hK188 : (∀ (pi : Nat → Int32) (le : Nat → Int32) (sg : Nat → Int32) (wo : Nat → Int32) (x1 : Int32) (x2 : Int32) (H : Heap) (locs : List Loc) (ls : Array Slot), K188 pi le sg wo x1 x2 → va_P D vwCl (w7 cI q th sz sd ss pr me ab be pi le sg wo) H → va_S (A7 q) s.heap H locs → lv_has ls 4 [(0, .ref (q 0)), (1, .int x1), (2, .int x2)] → W p l e rX7_doPredict s m args below meth c H locs 0 0 (MQ below (va_Qv (S := (Nat → Int32) × (Nat → Int32) × (Nat → Int32) × (Nat → Int32)) (fun u => post u.1 u.2.1 u.2.2.1 u.2.2.2) (fun u t => va_P D vwCl (w7 cI q th sz sd ss pr me ab be u.1 u.2.1 u.2.2.1 u.2.2.2) t.heap) (A7 q)) args s 0 0 (A7 q)) (F0 m 188 ls []))) :
    ∀ (n : Nat) (pi : Nat → Int32) (le : Nat → Int32) (sg : Nat → Int32) (wo : Nat → Int32) (x1 : Int32) (x2 : Int32) (x3 : Int32) (H : Heap) (locs : List Loc) (ls : Array Slot), wl_X7_doPredict_138 sz ab be post K188 n pi le sg wo x1 x2 x3 → va_P D vwCl (w7 cI q th sz sd ss pr me ab be pi le sg wo) H → va_S (A7 q) s.heap H locs → lv_has ls 4 [(0, .ref (q 0)), (1, .int x1), (2, .int x2), (3, .int x3)] → W p l e rX7_doPredict s m args below meth c H locs 0 0 (MQ below (va_Qv (S := (Nat → Int32) × (Nat → Int32) × (Nat → Int32) × (Nat → Int32)) (fun u => post u.1 u.2.1 u.2.2.1 u.2.2.2) (fun u t => va_P D vwCl (w7 cI q th sz sd ss pr me ab be u.1 u.2.1 u.2.2.1 u.2.2.2) t.heap) (A7 q)) args s 0 0 (A7 q)) (F0 m 138 ls []) := by
  obtain ⟨hx, hb, hr, hml, hown, hg, hlocks, hK, hap⟩ := id C
  intro n
  induction n with
  | zero => intro pi le sg wo x1 x2 x3 H locs ls hw; exact absurd hw id
  | succ n ih =>
    intro pi le sg wo x1 x2 x3 H locs ls hw hP hS hl
    refine lv_iload_n hx hb dX7_doPredict_138 rfl (lv_at hl 3 rfl) ?_
    refine lv_aload_n hx hb dX7_doPredict_139 rfl (lv_at hl 0 rfl) ?_
    refine va_get (D := D) (ci := 7) (v := .int sz) (C := RX7) (T := TX7) (N := 12) hx hb hg ku_X7 hown hK hP 0 rfl rfl 1 (by decide) (hg _ kf_X7_13) (fun _ h9 => h9) rfl dX7_doPredict_140 ?_
    refine lv_icmp_ge (tgt := 188) hx hb dX7_doPredict_143 (by decide) (fun hc143 => ?_) (fun hc143 => ?_)
    · have hw := hw.1 hc143
      exact hK188 _ _ _ _ _ _ _ _ _ hw hP hS (lv_sub hl [0, 1, 2] rfl)
    · have hw := hw.2 hc143
      refine lv_aload_n hx hb dX7_doPredict_146 rfl (lv_at hl 0 rfl) ?_
      refine lv_bipush (v := 20) hx hb dX7_doPredict_147 (by decide) ?_
      refine lv_iconst (v := 2) hx hb dX7_doPredict_149 (by decide) ?_
      refine lv_iload_n hx hb dX7_doPredict_150 rfl (lv_at hl 2 rfl) ?_
      refine lv_iload_n hx hb dX7_doPredict_151 rfl (lv_at hl 3 rfl) ?_
      refine va_callv (va_runV (As := [.int 20, .int 2, .int x2, .int x3]) (rest := []) ⟨hx, hb, hml, hown, hg⟩ (m_X7_model l D cI q th sz sd ss pr me ab be pi le sg wo 20 2 x2 x3 _ hw) (cwV 4 hg (x_gV km_X7_117 ki_X7_model kz_X7_X7_model kn_X7 kk_X7_model) rfl rfl rfl (by decide +kernel) ⟨Nat.le_of_ble_eq_true rfl, Nat.le_of_ble_eq_true rfl⟩) (pre7V hP hK hap [.int 20, .int 2, .int x2, .int x3]) rfl rfl hl.1 rfl (lv_room (Nat.le_of_ble_eq_true rfl)) dX7_doPredict_152 ⟨Nat.zero_le _, Nat.zero_le _⟩) hS (fun _ _ h => h) (fun _ h => h) (fun  u t H locs ht hvm hw hP hz1 hk1 hS => ?_)
      obtain ⟨pi_152, le_152, sg_152, wo_152⟩ := u
      rw [ht] at hP; clear hz1 hk1 ht hvm
      try dsimp only at hw
      try dsimp only at hP
      refine lv_aload_n hx hb dX7_doPredict_155 rfl (lv_at hl 0 rfl) ?_
      refine lv_bipush (v := 21) hx hb dX7_doPredict_156 (by decide) ?_
      refine lv_bipush (v := 10) hx hb dX7_doPredict_158 (by decide) ?_
      refine lv_iconst (v := 2) hx hb dX7_doPredict_160 (by decide) ?_
      refine lv_iload_n hx hb dX7_doPredict_161 rfl (lv_at hl 1 rfl) ?_
      refine lv_imul hx hb dX7_doPredict_162 ?_
      refine lv_iadd hx hb dX7_doPredict_163 ?_
      refine lv_iload_n hx hb dX7_doPredict_164 rfl (lv_at hl 3 rfl) ?_
      refine lv_iadd hx hb dX7_doPredict_165 ?_
      refine lv_bipush (v := 20) hx hb dX7_doPredict_166 (by decide) ?_
      refine va_callv (va_runV (As := [.int 21, .int ((10 + (2 * x1)) + x3), .int 20]) (rest := []) ⟨hx, hb, hml, hown, hg⟩ (m_X7_multiply l D cI q th sz sd ss pr me ab be pi_152 le_152 sg_152 wo_152 21 ((10 + (2 * x1)) + x3) 20 _ hw) (cwV 3 hg (x_gV km_X7_124 ki_X7_multiply kz_X7_X7_multiply kn_X7 kk_X7_multiply) rfl rfl rfl (by decide +kernel) ⟨Nat.le_of_ble_eq_true rfl, Nat.le_of_ble_eq_true rfl⟩) (pre7V hP hK hap [.int 21, .int ((10 + (2 * x1)) + x3), .int 20]) rfl rfl hl.1 rfl (lv_room (Nat.le_of_ble_eq_true rfl)) dX7_doPredict_168 ⟨Nat.zero_le _, Nat.zero_le _⟩) hS (fun _ _ h => h) (fun _ h => h) (fun  u t H locs ht hvm hw hP hz1 hk1 hS => ?_)
      obtain ⟨pi_168, le_168, sg_168, wo_168⟩ := u
      rw [ht] at hP; clear hz1 hk1 ht hvm
      try dsimp only at hw
      try dsimp only at hP
      refine lv_aload_n hx hb dX7_doPredict_171 rfl (lv_at hl 0 rfl) ?_
      refine lv_bipush (v := 14) hx hb dX7_doPredict_172 (by decide) ?_
      refine lv_bipush (v := 14) hx hb dX7_doPredict_174 (by decide) ?_
      refine lv_bipush (v := 21) hx hb dX7_doPredict_176 (by decide) ?_
      refine lv_iconst (v := 1) hx hb dX7_doPredict_178 (by decide) ?_
      refine va_callv (va_runV (As := [.int 14, .int 14, .int 21, .int 1]) (rest := []) ⟨hx, hb, hml, hown, hg⟩ (m_X7_add l D cI q th sz sd ss pr me ab be pi_168 le_168 sg_168 wo_168 14 14 21 1 _ hw) (cwV 4 hg (x_gV km_X7_127 ki_X7_add kz_X7_X7_add kn_X7 kk_X7_add) rfl rfl rfl (by decide +kernel) ⟨Nat.le_of_ble_eq_true rfl, Nat.le_of_ble_eq_true rfl⟩) (pre7V hP hK hap [.int 14, .int 14, .int 21, .int 1]) rfl rfl hl.1 rfl (lv_room (Nat.le_of_ble_eq_true rfl)) dX7_doPredict_179 ⟨Nat.zero_le _, Nat.zero_le _⟩) hS (fun _ _ h => h) (fun _ h => h) (fun  u t H locs ht hvm hw hP hz1 hk1 hS => ?_)
      obtain ⟨pi_179, le_179, sg_179, wo_179⟩ := u
      rw [ht] at hP; clear hz1 hk1 ht hvm
      try dsimp only at hw
      try dsimp only at hP
      obtain ⟨x3_182, ex3_182⟩ : ∃ y : Int32, y = x3 + 1 := ⟨_, rfl⟩
      have hw := hw x3_182 ex3_182
      refine lv_iinc (v := x3_182) (lv' := [(3, .int x3_182), (0, .ref (q 0)), (1, .int x1), (2, .int x2)]) hx hb dX7_doPredict_182 hl (k := 3) rfl (by rw [ex3_182]; rfl) (by decide) rfl (fun ls hl => ?_)
      refine lv_goto (tgt := 138) hx hb dX7_doPredict_185 (by decide) ?_
      exact ih _ _ _ _ _ _ _ _ _ _ hw hP hS (lv_sub hl [1, 2, 3, 0] rfl)
set_option maxHeartbeats 4000000 in
set_option maxRecDepth 100000 in
theorem ml_X7_doPredict_119 (C : C7 p s m args meth c D cI q cX7_doPredict 4 none) (th : Int32) (sz : Int32) (sd : Int32) (ss : Int32) (pr : Int32) (me : Int32) (ab : Nat → Int32) (be : Nat → Int32) (post : (Nat → Int32) → (Nat → Int32) → (Nat → Int32) → (Nat → Int32) → Prop) (K205 : (Nat → Int32) → (Nat → Int32) → (Nat → Int32) → (Nat → Int32) → Int32 → Prop)
    (hK205 : (∀ (pi : Nat → Int32) (le : Nat → Int32) (sg : Nat → Int32) (wo : Nat → Int32) (x1 : Int32) (H : Heap) (locs : List Loc) (ls : Array Slot), K205 pi le sg wo x1 → va_P D vwCl (w7 cI q th sz sd ss pr me ab be pi le sg wo) H → va_S (A7 q) s.heap H locs → lv_has ls 4 [(0, .ref (q 0)), (1, .int x1)] → W p l e rX7_doPredict s m args below meth c H locs 0 0 (MQ below (va_Qv (S := (Nat → Int32) × (Nat → Int32) × (Nat → Int32) × (Nat → Int32)) (fun u => post u.1 u.2.1 u.2.2.1 u.2.2.2) (fun u t => va_P D vwCl (w7 cI q th sz sd ss pr me ab be u.1 u.2.1 u.2.2.1 u.2.2.2) t.heap) (A7 q)) args s 0 0 (A7 q)) (F0 m 205 ls []))) :
    ∀ (n : Nat) (pi : Nat → Int32) (le : Nat → Int32) (sg : Nat → Int32) (wo : Nat → Int32) (x1 : Int32) (x2 : Int32) (H : Heap) (locs : List Loc) (ls : Array Slot), wl_X7_doPredict_119 sz ab be post K205 n pi le sg wo x1 x2 → va_P D vwCl (w7 cI q th sz sd ss pr me ab be pi le sg wo) H → va_S (A7 q) s.heap H locs → lv_has ls 4 [(0, .ref (q 0)), (1, .int x1), (2, .int x2)] → W p l e rX7_doPredict s m args below meth c H locs 0 0 (MQ below (va_Qv (S := (Nat → Int32) × (Nat → Int32) × (Nat → Int32) × (Nat → Int32)) (fun u => post u.1 u.2.1 u.2.2.1 u.2.2.2) (fun u t => va_P D vwCl (w7 cI q th sz sd ss pr me ab be u.1 u.2.1 u.2.2.1 u.2.2.2) t.heap) (A7 q)) args s 0 0 (A7 q)) (F0 m 119 ls []) := by
  obtain ⟨hx, hb, hr, hml, hown, hg, hlocks, hK, hap⟩ := id C
  intro n
  induction n with
  | zero => intro pi le sg wo x1 x2 H locs ls hw; exact absurd hw id
  | succ n ih =>
    intro pi le sg wo x1 x2 H locs ls hw hP hS hl
    refine lv_iload_n hx hb dX7_doPredict_119 rfl (lv_at hl 2 rfl) ?_
    refine lv_aload_n hx hb dX7_doPredict_120 rfl (lv_at hl 0 rfl) ?_
    refine va_get (D := D) (ci := 7) (v := .int sz) (C := RX7) (T := TX7) (N := 12) hx hb hg ku_X7 hown hK hP 0 rfl rfl 1 (by decide) (hg _ kf_X7_13) (fun _ h9 => h9) rfl dX7_doPredict_121 ?_
    refine lv_icmp_ge (tgt := 205) hx hb dX7_doPredict_124 (by decide) (fun hc124 => ?_) (fun hc124 => ?_)
    · have hw := hw.1 hc124
      exact hK205 _ _ _ _ _ _ _ _ hw hP hS (lv_sub hl [0, 1] rfl)
    · have hw := hw.2 hc124
      refine lv_aload_n hx hb dX7_doPredict_127 rfl (lv_at hl 0 rfl) ?_
      refine lv_bipush (v := 14) hx hb dX7_doPredict_128 (by decide) ?_
      refine lv_iconst (v := 4) hx hb dX7_doPredict_130 (by decide) ?_
      refine lv_iload_n hx hb dX7_doPredict_131 rfl (lv_at hl 1 rfl) ?_
      refine lv_iload_n hx hb dX7_doPredict_132 rfl (lv_at hl 2 rfl) ?_
      refine va_callv (va_runV (As := [.int 14, .int 4, .int x1, .int x2]) (rest := []) ⟨hx, hb, hml, hown, hg⟩ (m_X7_model l D cI q th sz sd ss pr me ab be pi le sg wo 14 4 x1 x2 _ hw) (cwV 4 hg (x_gV km_X7_117 ki_X7_model kz_X7_X7_model kn_X7 kk_X7_model) rfl rfl rfl (by decide +kernel) ⟨Nat.le_of_ble_eq_true rfl, Nat.le_of_ble_eq_true rfl⟩) (pre7V hP hK hap [.int 14, .int 4, .int x1, .int x2]) rfl rfl hl.1 rfl (lv_room (Nat.le_of_ble_eq_true rfl)) dX7_doPredict_133 ⟨Nat.zero_le _, Nat.zero_le _⟩) hS (fun _ _ h => h) (fun _ h => h) (fun  u t H locs ht hvm hw hP hz1 hk1 hS => ?_)
      obtain ⟨pi_133, le_133, sg_133, wo_133⟩ := u
      rw [ht] at hP; clear hz1 hk1 ht hvm
      try dsimp only at hw
      try dsimp only at hP
      refine lv_iconst (v := 0) hx hb dX7_doPredict_136 (by decide) ?_
      refine lv_istore_n (lv' := [(3, .int 0), (0, .ref (q 0)), (1, .int x1), (2, .int x2)]) hx hb dX7_doPredict_137 rfl hl (by decide) rfl (fun ls hl => ?_)
      obtain ⟨n138, hw⟩ := hw
      refine ml_X7_doPredict_138 C th sz sd ss pr me ab be post _ ?_ n138 _ _ _ _ _ _ _ _ _ _ hw hP hS (lv_sub hl [1, 2, 3, 0] rfl)
      · intro pi le sg wo x1 x2 H locs ls hw hP hS hl
        refine lv_aload_n hx hb dX7_doPredict_188 rfl (lv_at hl 0 rfl) ?_
        refine lv_iload_n hx hb dX7_doPredict_189 rfl (lv_at hl 1 rfl) ?_
        refine lv_iload_n hx hb dX7_doPredict_190 rfl (lv_at hl 2 rfl) ?_
        refine va_calli (va_runS (As := [.int x1, .int x2]) (rest := [.ref (q 0)]) ⟨hx, hb, hml, hown, hg⟩ (m_X7_cov l x1 x2 _ hw) (va_cwS 2 hg (x_gS km_X7_121 ks_X7_cov kn_X7 kk_X7_cov) rfl rfl rfl (by decide +kernel) ⟨Nat.le_of_ble_eq_true rfl, Nat.le_of_ble_eq_true rfl⟩) pre7S rfl rfl hl.1 rfl (lv_room (Nat.le_of_ble_eq_true rfl)) dX7_doPredict_191 ⟨Nat.zero_le _, Nat.zero_le _⟩) hS (fun _ _ h => h.elim) (fun _ h => h.elim) (fun r_191 u t H1 locs1 ht hvm hw hB hz1 hk1 hS => ?_)
        have hP := hP.kept (fun k9 q9 h9 => hk1 q9.1 ((hP k9 q9 h9).lt) (fun z => z.elim))
        clear hB; generalize H1 = H at hP hS ⊢; generalize locs1 = locs at hS ⊢; try dsimp only at hw
        refine lv_bipush (v := 14) hx hb dX7_doPredict_194 (by decide) ?_
        refine va_callv (va_runV (As := [.int r_191, .int 14]) (rest := []) ⟨hx, hb, hml, hown, hg⟩ (m_X7_same l D cI q th sz sd ss pr me ab be pi le sg wo r_191 14 _ hw) (cwV 2 hg (x_gV km_X7_130 ki_X7_same kz_X7_X7_same kn_X7 kk_X7_same) rfl rfl rfl (by decide +kernel) ⟨Nat.le_of_ble_eq_true rfl, Nat.le_of_ble_eq_true rfl⟩) (pre7V hP hK hap [.int r_191, .int 14]) rfl rfl hl.1 rfl (lv_room (Nat.le_of_ble_eq_true rfl)) dX7_doPredict_196 ⟨Nat.zero_le _, Nat.zero_le _⟩) hS (fun _ _ h => h) (fun _ h => h) (fun  u t H locs ht hvm hw hP hz1 hk1 hS => ?_)
        obtain ⟨pi_196, le_196, sg_196⟩ := u
        rw [ht] at hP; clear hz1 hk1 ht hvm
        try dsimp only at hw
        try dsimp only at hP
        obtain ⟨x2_199, ex2_199⟩ : ∃ y : Int32, y = x2 + 1 := ⟨_, rfl⟩
        have hw := hw x2_199 ex2_199
        refine lv_iinc (v := x2_199) (lv' := [(2, .int x2_199), (0, .ref (q 0)), (1, .int x1)]) hx hb dX7_doPredict_199 hl (k := 2) rfl (by rw [ex2_199]; rfl) (by decide) rfl (fun ls hl => ?_)
        refine lv_goto (tgt := 119) hx hb dX7_doPredict_202 (by decide) ?_
        exact ih _ _ _ _ _ _ _ _ _ hw hP hS (lv_sub hl [1, 2, 0] rfl)
set_option maxHeartbeats 4000000 in
set_option maxRecDepth 100000 in
theorem ml_X7_doPredict_109 (C : C7 p s m args meth c D cI q cX7_doPredict 4 none) (th : Int32) (sz : Int32) (sd : Int32) (ss : Int32) (pr : Int32) (me : Int32) (ab : Nat → Int32) (be : Nat → Int32) (post : (Nat → Int32) → (Nat → Int32) → (Nat → Int32) → (Nat → Int32) → Prop) (K211 : (Nat → Int32) → (Nat → Int32) → (Nat → Int32) → (Nat → Int32) → Prop)
    (hK211 : (∀ (pi : Nat → Int32) (le : Nat → Int32) (sg : Nat → Int32) (wo : Nat → Int32) (H : Heap) (locs : List Loc) (ls : Array Slot), K211 pi le sg wo → va_P D vwCl (w7 cI q th sz sd ss pr me ab be pi le sg wo) H → va_S (A7 q) s.heap H locs → lv_has ls 4 [(0, .ref (q 0))] → W p l e rX7_doPredict s m args below meth c H locs 0 0 (MQ below (va_Qv (S := (Nat → Int32) × (Nat → Int32) × (Nat → Int32) × (Nat → Int32)) (fun u => post u.1 u.2.1 u.2.2.1 u.2.2.2) (fun u t => va_P D vwCl (w7 cI q th sz sd ss pr me ab be u.1 u.2.1 u.2.2.1 u.2.2.2) t.heap) (A7 q)) args s 0 0 (A7 q)) (F0 m 211 ls []))) :
    ∀ (n : Nat) (pi : Nat → Int32) (le : Nat → Int32) (sg : Nat → Int32) (wo : Nat → Int32) (x1 : Int32) (H : Heap) (locs : List Loc) (ls : Array Slot), wl_X7_doPredict_109 sz ab be post K211 n pi le sg wo x1 → va_P D vwCl (w7 cI q th sz sd ss pr me ab be pi le sg wo) H → va_S (A7 q) s.heap H locs → lv_has ls 4 [(0, .ref (q 0)), (1, .int x1)] → W p l e rX7_doPredict s m args below meth c H locs 0 0 (MQ below (va_Qv (S := (Nat → Int32) × (Nat → Int32) × (Nat → Int32) × (Nat → Int32)) (fun u => post u.1 u.2.1 u.2.2.1 u.2.2.2) (fun u t => va_P D vwCl (w7 cI q th sz sd ss pr me ab be u.1 u.2.1 u.2.2.1 u.2.2.2) t.heap) (A7 q)) args s 0 0 (A7 q)) (F0 m 109 ls []) := by
  obtain ⟨hx, hb, hr, hml, hown, hg, hlocks, hK, hap⟩ := id C
  intro n
  induction n with
  | zero => intro pi le sg wo x1 H locs ls hw; exact absurd hw id
  | succ n ih =>
    intro pi le sg wo x1 H locs ls hw hP hS hl
    refine lv_iload_n hx hb dX7_doPredict_109 rfl (lv_at hl 1 rfl) ?_
    refine lv_aload_n hx hb dX7_doPredict_110 rfl (lv_at hl 0 rfl) ?_
    refine va_get (D := D) (ci := 7) (v := .int sz) (C := RX7) (T := TX7) (N := 12) hx hb hg ku_X7 hown hK hP 0 rfl rfl 1 (by decide) (hg _ kf_X7_13) (fun _ h9 => h9) rfl dX7_doPredict_111 ?_
    refine lv_icmp_ge (tgt := 211) hx hb dX7_doPredict_114 (by decide) (fun hc114 => ?_) (fun hc114 => ?_)
    · have hw := hw.1 hc114
      exact hK211 _ _ _ _ _ _ _ hw hP hS (lv_sub hl [0] rfl)
    · have hw := hw.2 hc114
      refine lv_iconst (v := 0) hx hb dX7_doPredict_117 (by decide) ?_
      refine lv_istore_n (lv' := [(2, .int 0), (0, .ref (q 0)), (1, .int x1)]) hx hb dX7_doPredict_118 rfl hl (by decide) rfl (fun ls hl => ?_)
      obtain ⟨n119, hw⟩ := hw
      refine ml_X7_doPredict_119 C th sz sd ss pr me ab be post _ ?_ n119 _ _ _ _ _ _ _ _ _ hw hP hS (lv_sub hl [1, 2, 0] rfl)
      · intro pi le sg wo x1 H locs ls hw hP hS hl
        obtain ⟨x1_205, ex1_205⟩ : ∃ y : Int32, y = x1 + 1 := ⟨_, rfl⟩
        have hw := hw x1_205 ex1_205
        refine lv_iinc (v := x1_205) (lv' := [(1, .int x1_205), (0, .ref (q 0))]) hx hb dX7_doPredict_205 hl (k := 1) rfl (by rw [ex1_205]; rfl) (by decide) rfl (fun ls hl => ?_)
        refine lv_goto (tgt := 109) hx hb dX7_doPredict_208 (by decide) ?_
        exact ih _ _ _ _ _ _ _ _ hw hP hS (lv_sub hl [1, 0] rfl)
set_option maxHeartbeats 4000000 in
set_option maxRecDepth 100000 in
theorem ml_X7_doPredict_234 (C : C7 p s m args meth c D cI q cX7_doPredict 4 none) (th : Int32) (sz : Int32) (sd : Int32) (ss : Int32) (pr : Int32) (me : Int32) (ab : Nat → Int32) (be : Nat → Int32) (post : (Nat → Int32) → (Nat → Int32) → (Nat → Int32) → (Nat → Int32) → Prop) (K281 : (Nat → Int32) → (Nat → Int32) → (Nat → Int32) → (Nat → Int32) → Int32 → Prop)
    (hK281 : (∀ (pi : Nat → Int32) (le : Nat → Int32) (sg : Nat → Int32) (wo : Nat → Int32) (x1 : Int32) (H : Heap) (locs : List Loc) (ls : Array Slot), K281 pi le sg wo x1 → va_P D vwCl (w7 cI q th sz sd ss pr me ab be pi le sg wo) H → va_S (A7 q) s.heap H locs → lv_has ls 4 [(0, .ref (q 0)), (1, .int x1)] → W p l e rX7_doPredict s m args below meth c H locs 0 0 (MQ below (va_Qv (S := (Nat → Int32) × (Nat → Int32) × (Nat → Int32) × (Nat → Int32)) (fun u => post u.1 u.2.1 u.2.2.1 u.2.2.2) (fun u t => va_P D vwCl (w7 cI q th sz sd ss pr me ab be u.1 u.2.1 u.2.2.1 u.2.2.2) t.heap) (A7 q)) args s 0 0 (A7 q)) (F0 m 281 ls []))) :
    ∀ (n : Nat) (pi : Nat → Int32) (le : Nat → Int32) (sg : Nat → Int32) (wo : Nat → Int32) (x1 : Int32) (x2 : Int32) (H : Heap) (locs : List Loc) (ls : Array Slot), wl_X7_doPredict_234 sz ab be post K281 n pi le sg wo x1 x2 → va_P D vwCl (w7 cI q th sz sd ss pr me ab be pi le sg wo) H → va_S (A7 q) s.heap H locs → lv_has ls 4 [(0, .ref (q 0)), (1, .int x1), (2, .int x2)] → W p l e rX7_doPredict s m args below meth c H locs 0 0 (MQ below (va_Qv (S := (Nat → Int32) × (Nat → Int32) × (Nat → Int32) × (Nat → Int32)) (fun u => post u.1 u.2.1 u.2.2.1 u.2.2.2) (fun u t => va_P D vwCl (w7 cI q th sz sd ss pr me ab be u.1 u.2.1 u.2.2.1 u.2.2.2) t.heap) (A7 q)) args s 0 0 (A7 q)) (F0 m 234 ls []) := by
  obtain ⟨hx, hb, hr, hml, hown, hg, hlocks, hK, hap⟩ := id C
  intro n
  induction n with
  | zero => intro pi le sg wo x1 x2 H locs ls hw; exact absurd hw id
  | succ n ih =>
    intro pi le sg wo x1 x2 H locs ls hw hP hS hl
    refine lv_iload_n hx hb dX7_doPredict_234 rfl (lv_at hl 2 rfl) ?_
    refine lv_aload_n hx hb dX7_doPredict_235 rfl (lv_at hl 0 rfl) ?_
    refine va_get (D := D) (ci := 7) (v := .int sz) (C := RX7) (T := TX7) (N := 12) hx hb hg ku_X7 hown hK hP 0 rfl rfl 1 (by decide) (hg _ kf_X7_13) (fun _ h9 => h9) rfl dX7_doPredict_236 ?_
    refine lv_icmp_ge (tgt := 281) hx hb dX7_doPredict_239 (by decide) (fun hc239 => ?_) (fun hc239 => ?_)
    · have hw := hw.1 hc239
      exact hK281 _ _ _ _ _ _ _ _ hw hP hS (lv_sub hl [0, 1] rfl)
    · have hw := hw.2 hc239
      refine lv_aload_n hx hb dX7_doPredict_242 rfl (lv_at hl 0 rfl) ?_
      refine lv_bipush (v := 20) hx hb dX7_doPredict_243 (by decide) ?_
      refine lv_iconst (v := 2) hx hb dX7_doPredict_245 (by decide) ?_
      refine lv_iload_n hx hb dX7_doPredict_246 rfl (lv_at hl 1 rfl) ?_
      refine lv_iload_n hx hb dX7_doPredict_247 rfl (lv_at hl 2 rfl) ?_
      refine va_callv (va_runV (As := [.int 20, .int 2, .int x1, .int x2]) (rest := []) ⟨hx, hb, hml, hown, hg⟩ (m_X7_model l D cI q th sz sd ss pr me ab be pi le sg wo 20 2 x1 x2 _ hw) (cwV 4 hg (x_gV km_X7_117 ki_X7_model kz_X7_X7_model kn_X7 kk_X7_model) rfl rfl rfl (by decide +kernel) ⟨Nat.le_of_ble_eq_true rfl, Nat.le_of_ble_eq_true rfl⟩) (pre7V hP hK hap [.int 20, .int 2, .int x1, .int x2]) rfl rfl hl.1 rfl (lv_room (Nat.le_of_ble_eq_true rfl)) dX7_doPredict_248 ⟨Nat.zero_le _, Nat.zero_le _⟩) hS (fun _ _ h => h) (fun _ h => h) (fun  u t H locs ht hvm hw hP hz1 hk1 hS => ?_)
      obtain ⟨pi_248, le_248, sg_248, wo_248⟩ := u
      rw [ht] at hP; clear hz1 hk1 ht hvm
      try dsimp only at hw
      try dsimp only at hP
      refine lv_aload_n hx hb dX7_doPredict_251 rfl (lv_at hl 0 rfl) ?_
      refine lv_bipush (v := 21) hx hb dX7_doPredict_252 (by decide) ?_
      refine lv_bipush (v := 20) hx hb dX7_doPredict_254 (by decide) ?_
      refine lv_iload_n hx hb dX7_doPredict_256 rfl (lv_at hl 2 rfl) ?_
      refine va_callv (va_runV (As := [.int 21, .int 20, .int x2]) (rest := []) ⟨hx, hb, hml, hown, hg⟩ (m_X7_multiply l D cI q th sz sd ss pr me ab be pi_248 le_248 sg_248 wo_248 21 20 x2 _ hw) (cwV 3 hg (x_gV km_X7_124 ki_X7_multiply kz_X7_X7_multiply kn_X7 kk_X7_multiply) rfl rfl rfl (by decide +kernel) ⟨Nat.le_of_ble_eq_true rfl, Nat.le_of_ble_eq_true rfl⟩) (pre7V hP hK hap [.int 21, .int 20, .int x2]) rfl rfl hl.1 rfl (lv_room (Nat.le_of_ble_eq_true rfl)) dX7_doPredict_257 ⟨Nat.zero_le _, Nat.zero_le _⟩) hS (fun _ _ h => h) (fun _ h => h) (fun  u t H locs ht hvm hw hP hz1 hk1 hS => ?_)
      obtain ⟨pi_257, le_257, sg_257, wo_257⟩ := u
      rw [ht] at hP; clear hz1 hk1 ht hvm
      try dsimp only at hw
      try dsimp only at hP
      refine lv_aload_n hx hb dX7_doPredict_260 rfl (lv_at hl 0 rfl) ?_
      refine lv_bipush (v := 10) hx hb dX7_doPredict_261 (by decide) ?_
      refine lv_iload_n hx hb dX7_doPredict_263 rfl (lv_at hl 1 rfl) ?_
      refine lv_iadd hx hb dX7_doPredict_264 ?_
      refine lv_bipush (v := 10) hx hb dX7_doPredict_265 (by decide) ?_
      refine lv_iload_n hx hb dX7_doPredict_267 rfl (lv_at hl 1 rfl) ?_
      refine lv_iadd hx hb dX7_doPredict_268 ?_
      refine lv_bipush (v := 21) hx hb dX7_doPredict_269 (by decide) ?_
      refine lv_iconst (v := 1) hx hb dX7_doPredict_271 (by decide) ?_
      refine va_callv (va_runV (As := [.int (10 + x1), .int (10 + x1), .int 21, .int 1]) (rest := []) ⟨hx, hb, hml, hown, hg⟩ (m_X7_add l D cI q th sz sd ss pr me ab be pi_257 le_257 sg_257 wo_257 (10 + x1) (10 + x1) 21 1 _ hw) (cwV 4 hg (x_gV km_X7_127 ki_X7_add kz_X7_X7_add kn_X7 kk_X7_add) rfl rfl rfl (by decide +kernel) ⟨Nat.le_of_ble_eq_true rfl, Nat.le_of_ble_eq_true rfl⟩) (pre7V hP hK hap [.int (10 + x1), .int (10 + x1), .int 21, .int 1]) rfl rfl hl.1 rfl (lv_room (Nat.le_of_ble_eq_true rfl)) dX7_doPredict_272 ⟨Nat.zero_le _, Nat.zero_le _⟩) hS (fun _ _ h => h) (fun _ h => h) (fun  u t H locs ht hvm hw hP hz1 hk1 hS => ?_)
      obtain ⟨pi_272, le_272, sg_272, wo_272⟩ := u
      rw [ht] at hP; clear hz1 hk1 ht hvm
      try dsimp only at hw
      try dsimp only at hP
      obtain ⟨x2_275, ex2_275⟩ : ∃ y : Int32, y = x2 + 1 := ⟨_, rfl⟩
      have hw := hw x2_275 ex2_275
      refine lv_iinc (v := x2_275) (lv' := [(2, .int x2_275), (0, .ref (q 0)), (1, .int x1)]) hx hb dX7_doPredict_275 hl (k := 2) rfl (by rw [ex2_275]; rfl) (by decide) rfl (fun ls hl => ?_)
      refine lv_goto (tgt := 234) hx hb dX7_doPredict_278 (by decide) ?_
      exact ih _ _ _ _ _ _ _ _ _ hw hP hS (lv_sub hl [1, 2, 0] rfl)
set_option maxHeartbeats 4000000 in
set_option maxRecDepth 100000 in
theorem ml_X7_doPredict_213 (C : C7 p s m args meth c D cI q cX7_doPredict 4 none) (th : Int32) (sz : Int32) (sd : Int32) (ss : Int32) (pr : Int32) (me : Int32) (ab : Nat → Int32) (be : Nat → Int32) (post : (Nat → Int32) → (Nat → Int32) → (Nat → Int32) → (Nat → Int32) → Prop) (K287 : (Nat → Int32) → (Nat → Int32) → (Nat → Int32) → (Nat → Int32) → Prop)
    (hK287 : (∀ (pi : Nat → Int32) (le : Nat → Int32) (sg : Nat → Int32) (wo : Nat → Int32) (H : Heap) (locs : List Loc) (ls : Array Slot), K287 pi le sg wo → va_P D vwCl (w7 cI q th sz sd ss pr me ab be pi le sg wo) H → va_S (A7 q) s.heap H locs → lv_has ls 4 [(0, .ref (q 0))] → W p l e rX7_doPredict s m args below meth c H locs 0 0 (MQ below (va_Qv (S := (Nat → Int32) × (Nat → Int32) × (Nat → Int32) × (Nat → Int32)) (fun u => post u.1 u.2.1 u.2.2.1 u.2.2.2) (fun u t => va_P D vwCl (w7 cI q th sz sd ss pr me ab be u.1 u.2.1 u.2.2.1 u.2.2.2) t.heap) (A7 q)) args s 0 0 (A7 q)) (F0 m 287 ls []))) :
    ∀ (n : Nat) (pi : Nat → Int32) (le : Nat → Int32) (sg : Nat → Int32) (wo : Nat → Int32) (x1 : Int32) (H : Heap) (locs : List Loc) (ls : Array Slot), wl_X7_doPredict_213 sz ab be post K287 n pi le sg wo x1 → va_P D vwCl (w7 cI q th sz sd ss pr me ab be pi le sg wo) H → va_S (A7 q) s.heap H locs → lv_has ls 4 [(0, .ref (q 0)), (1, .int x1)] → W p l e rX7_doPredict s m args below meth c H locs 0 0 (MQ below (va_Qv (S := (Nat → Int32) × (Nat → Int32) × (Nat → Int32) × (Nat → Int32)) (fun u => post u.1 u.2.1 u.2.2.1 u.2.2.2) (fun u t => va_P D vwCl (w7 cI q th sz sd ss pr me ab be u.1 u.2.1 u.2.2.1 u.2.2.2) t.heap) (A7 q)) args s 0 0 (A7 q)) (F0 m 213 ls []) := by
  obtain ⟨hx, hb, hr, hml, hown, hg, hlocks, hK, hap⟩ := id C
  intro n
  induction n with
  | zero => intro pi le sg wo x1 H locs ls hw; exact absurd hw id
  | succ n ih =>
    intro pi le sg wo x1 H locs ls hw hP hS hl
    refine lv_iload_n hx hb dX7_doPredict_213 rfl (lv_at hl 1 rfl) ?_
    refine lv_aload_n hx hb dX7_doPredict_214 rfl (lv_at hl 0 rfl) ?_
    refine va_get (D := D) (ci := 7) (v := .int sz) (C := RX7) (T := TX7) (N := 12) hx hb hg ku_X7 hown hK hP 0 rfl rfl 1 (by decide) (hg _ kf_X7_13) (fun _ h9 => h9) rfl dX7_doPredict_215 ?_
    refine lv_icmp_ge (tgt := 287) hx hb dX7_doPredict_218 (by decide) (fun hc218 => ?_) (fun hc218 => ?_)
    · have hw := hw.1 hc218
      exact hK287 _ _ _ _ _ _ _ hw hP hS (lv_sub hl [0] rfl)
    · have hw := hw.2 hc218
      refine lv_aload_n hx hb dX7_doPredict_221 rfl (lv_at hl 0 rfl) ?_
      refine lv_bipush (v := 10) hx hb dX7_doPredict_222 (by decide) ?_
      refine lv_iload_n hx hb dX7_doPredict_224 rfl (lv_at hl 1 rfl) ?_
      refine lv_iadd hx hb dX7_doPredict_225 ?_
      refine lv_iconst (v := 3) hx hb dX7_doPredict_226 (by decide) ?_
      refine lv_iload_n hx hb dX7_doPredict_227 rfl (lv_at hl 1 rfl) ?_
      refine lv_iconst (v := 0) hx hb dX7_doPredict_228 (by decide) ?_
      refine va_callv (va_runV (As := [.int (10 + x1), .int 3, .int x1, .int 0]) (rest := []) ⟨hx, hb, hml, hown, hg⟩ (m_X7_model l D cI q th sz sd ss pr me ab be pi le sg wo (10 + x1) 3 x1 0 _ hw) (cwV 4 hg (x_gV km_X7_117 ki_X7_model kz_X7_X7_model kn_X7 kk_X7_model) rfl rfl rfl (by decide +kernel) ⟨Nat.le_of_ble_eq_true rfl, Nat.le_of_ble_eq_true rfl⟩) (pre7V hP hK hap [.int (10 + x1), .int 3, .int x1, .int 0]) rfl rfl hl.1 rfl (lv_room (Nat.le_of_ble_eq_true rfl)) dX7_doPredict_229 ⟨Nat.zero_le _, Nat.zero_le _⟩) hS (fun _ _ h => h) (fun _ h => h) (fun  u t H locs ht hvm hw hP hz1 hk1 hS => ?_)
      obtain ⟨pi_229, le_229, sg_229, wo_229⟩ := u
      rw [ht] at hP; clear hz1 hk1 ht hvm
      try dsimp only at hw
      try dsimp only at hP
      refine lv_iconst (v := 0) hx hb dX7_doPredict_232 (by decide) ?_
      refine lv_istore_n (lv' := [(2, .int 0), (0, .ref (q 0)), (1, .int x1)]) hx hb dX7_doPredict_233 rfl hl (by decide) rfl (fun ls hl => ?_)
      obtain ⟨n234, hw⟩ := hw
      refine ml_X7_doPredict_234 C th sz sd ss pr me ab be post _ ?_ n234 _ _ _ _ _ _ _ _ _ hw hP hS (lv_sub hl [1, 2, 0] rfl)
      · intro pi le sg wo x1 H locs ls hw hP hS hl
        obtain ⟨x1_281, ex1_281⟩ : ∃ y : Int32, y = x1 + 1 := ⟨_, rfl⟩
        have hw := hw x1_281 ex1_281
        refine lv_iinc (v := x1_281) (lv' := [(1, .int x1_281), (0, .ref (q 0))]) hx hb dX7_doPredict_281 hl (k := 1) rfl (by rw [ex1_281]; rfl) (by decide) rfl (fun ls hl => ?_)
        refine lv_goto (tgt := 213) hx hb dX7_doPredict_284 (by decide) ?_
        exact ih _ _ _ _ _ _ _ _ hw hP hS (lv_sub hl [1, 0] rfl)
set_option maxHeartbeats 4000000 in
set_option maxRecDepth 100000 in
theorem ml_X7_doPredict_289 (C : C7 p s m args meth c D cI q cX7_doPredict 4 none) (th : Int32) (sz : Int32) (sd : Int32) (ss : Int32) (pr : Int32) (me : Int32) (ab : Nat → Int32) (be : Nat → Int32) (post : (Nat → Int32) → (Nat → Int32) → (Nat → Int32) → (Nat → Int32) → Prop) (K312 : (Nat → Int32) → (Nat → Int32) → (Nat → Int32) → (Nat → Int32) → Prop)
    (hK312 : (∀ (pi : Nat → Int32) (le : Nat → Int32) (sg : Nat → Int32) (wo : Nat → Int32) (H : Heap) (locs : List Loc) (ls : Array Slot), K312 pi le sg wo → va_P D vwCl (w7 cI q th sz sd ss pr me ab be pi le sg wo) H → va_S (A7 q) s.heap H locs → lv_has ls 4 [] → W p l e rX7_doPredict s m args below meth c H locs 0 0 (MQ below (va_Qv (S := (Nat → Int32) × (Nat → Int32) × (Nat → Int32) × (Nat → Int32)) (fun u => post u.1 u.2.1 u.2.2.1 u.2.2.2) (fun u t => va_P D vwCl (w7 cI q th sz sd ss pr me ab be u.1 u.2.1 u.2.2.1 u.2.2.2) t.heap) (A7 q)) args s 0 0 (A7 q)) (F0 m 312 ls []))) :
    ∀ (n : Nat) (pi : Nat → Int32) (le : Nat → Int32) (sg : Nat → Int32) (wo : Nat → Int32) (x1 : Int32) (H : Heap) (locs : List Loc) (ls : Array Slot), wl_X7_doPredict_289 sz ab be post K312 n pi le sg wo x1 → va_P D vwCl (w7 cI q th sz sd ss pr me ab be pi le sg wo) H → va_S (A7 q) s.heap H locs → lv_has ls 4 [(0, .ref (q 0)), (1, .int x1)] → W p l e rX7_doPredict s m args below meth c H locs 0 0 (MQ below (va_Qv (S := (Nat → Int32) × (Nat → Int32) × (Nat → Int32) × (Nat → Int32)) (fun u => post u.1 u.2.1 u.2.2.1 u.2.2.2) (fun u t => va_P D vwCl (w7 cI q th sz sd ss pr me ab be u.1 u.2.1 u.2.2.1 u.2.2.2) t.heap) (A7 q)) args s 0 0 (A7 q)) (F0 m 289 ls []) := by
  obtain ⟨hx, hb, hr, hml, hown, hg, hlocks, hK, hap⟩ := id C
  intro n
  induction n with
  | zero => intro pi le sg wo x1 H locs ls hw; exact absurd hw id
  | succ n ih =>
    intro pi le sg wo x1 H locs ls hw hP hS hl
    refine lv_iload_n hx hb dX7_doPredict_289 rfl (lv_at hl 1 rfl) ?_
    refine lv_aload_n hx hb dX7_doPredict_290 rfl (lv_at hl 0 rfl) ?_
    refine va_get (D := D) (ci := 7) (v := .int sz) (C := RX7) (T := TX7) (N := 12) hx hb hg ku_X7 hown hK hP 0 rfl rfl 1 (by decide) (hg _ kf_X7_13) (fun _ h9 => h9) rfl dX7_doPredict_291 ?_
    refine lv_icmp_ge (tgt := 312) hx hb dX7_doPredict_294 (by decide) (fun hc294 => ?_) (fun hc294 => ?_)
    · have hw := hw.1 hc294
      exact hK312 _ _ _ _ _ _ _ hw hP hS (lv_sub hl [] rfl)
    · have hw := hw.2 hc294
      refine lv_aload_n hx hb dX7_doPredict_297 rfl (lv_at hl 0 rfl) ?_
      refine lv_iload_n hx hb dX7_doPredict_298 rfl (lv_at hl 1 rfl) ?_
      refine lv_bipush (v := 10) hx hb dX7_doPredict_299 (by decide) ?_
      refine lv_iload_n hx hb dX7_doPredict_301 rfl (lv_at hl 1 rfl) ?_
      refine lv_iadd hx hb dX7_doPredict_302 ?_
      refine va_callv (va_runV (As := [.int x1, .int (10 + x1)]) (rest := []) ⟨hx, hb, hml, hown, hg⟩ (m_X7_same l D cI q th sz sd ss pr me ab be pi le sg wo x1 (10 + x1) _ hw) (cwV 2 hg (x_gV km_X7_130 ki_X7_same kz_X7_X7_same kn_X7 kk_X7_same) rfl rfl rfl (by decide +kernel) ⟨Nat.le_of_ble_eq_true rfl, Nat.le_of_ble_eq_true rfl⟩) (pre7V hP hK hap [.int x1, .int (10 + x1)]) rfl rfl hl.1 rfl (lv_room (Nat.le_of_ble_eq_true rfl)) dX7_doPredict_303 ⟨Nat.zero_le _, Nat.zero_le _⟩) hS (fun _ _ h => h) (fun _ h => h) (fun  u t H locs ht hvm hw hP hz1 hk1 hS => ?_)
      obtain ⟨pi_303, le_303, sg_303⟩ := u
      rw [ht] at hP; clear hz1 hk1 ht hvm
      try dsimp only at hw
      try dsimp only at hP
      obtain ⟨x1_306, ex1_306⟩ : ∃ y : Int32, y = x1 + 1 := ⟨_, rfl⟩
      have hw := hw x1_306 ex1_306
      refine lv_iinc (v := x1_306) (lv' := [(1, .int x1_306), (0, .ref (q 0))]) hx hb dX7_doPredict_306 hl (k := 1) rfl (by rw [ex1_306]; rfl) (by decide) rfl (fun ls hl => ?_)
      refine lv_goto (tgt := 289) hx hb dX7_doPredict_309 (by decide) ?_
      exact ih _ _ _ _ _ _ _ _ hw hP hS (lv_sub hl [1, 0] rfl)
set_option maxHeartbeats 4000000 in
set_option maxRecDepth 100000 in
theorem m_X7_doPredict (l : Launch) (D : va_G) (cI : ClassId) (q : Nat → Nat) (th : Int32) (sz : Int32) (sd : Int32) (ss : Int32) (pr : Int32) (me : Int32) (ab : Nat → Int32) (be : Nat → Int32) (pi : Nat → Int32) (le : Nat → Int32) (sg : Nat → Int32) (wo : Nat → Int32)  (post : (Nat → Int32) → (Nat → Int32) → (Nat → Int32) → (Nat → Int32) → Prop) (hw : wp_X7_doPredict sz ab be pi le sg wo  post) : Met l yX7_doPredict (wu yX7_doPredict cX7_doPredict 4 none) rX7_doPredict (va_Pc [.ref (q 0)] (fun U => va_P D vwCl (w7 cI q th sz sd ss pr me ab be pi le sg wo) U.heap ∧ K7 D cI q U)) (va_Qv (S := (Nat → Int32) × (Nat → Int32) × (Nat → Int32) × (Nat → Int32)) (fun u => post u.1 u.2.1 u.2.2.1 u.2.2.2) (fun u t => va_P D vwCl (w7 cI q th sz sd ss pr me ab be u.1 u.2.1 u.2.2.1 u.2.2.2) t.heap) (A7 q)) 0 0 (A7 q) := by
  refine Met.ofW (cc := cX7_doPredict) (maxL := 4) (ret := none) (by decide) rfl ?_
  intro p e s m args below meth c s₁ B hml hv
  obtain ⟨rfl, hP, hK, hap⟩ := hv
  have C : C7 p s m _ meth c D cI q cX7_doPredict 4 none := ⟨B.exec, B.bytes, B.returns, hml, findClass_of_methodNamed B.named, x_hg (atoms_spec (ws := wu yX7_doPredict cX7_doPredict 4 none) B.pre), B.notSynchronized, hK, hap⟩
  obtain ⟨hx, hb, hr, hml, hown, hg, hlocks, hK, hap⟩ := id C
  have hS : va_S (A7 q) s.heap s.heap [] := va_S.rf
  have hl := lv_entry ([.ref (q 0)]) (n := 4) (Nat.le_of_ble_eq_true rfl)
  rw [lg_entry_eq]
  generalize (lg_sl ([.ref (q 0)]) ++ List.replicate (4 - (lg_sl ([.ref (q 0)])).length) Slot.unset).toArray = ls at hl ⊢
  have hl : lv_has ls 4 [(0, .ref (q 0))] := hl
  unfold wp_X7_doPredict at hw
  refine lv_iconst (v := 0) hx hb dX7_doPredict_0 (by decide) ?_
  refine lv_istore_n (lv' := [(1, .int 0), (0, .ref (q 0))]) hx hb dX7_doPredict_1 rfl hl (by decide) rfl (fun ls hl => ?_)
  obtain ⟨n2, hw⟩ := hw
  refine ml_X7_doPredict_2 C th sz sd ss pr me ab be post _ ?_ n2 _ _ _ _ _ _ _ _ hw hP hS (lv_sub hl [1, 0] rfl)
  · intro pi le sg wo H locs ls hw hP hS hl
    refine lv_iconst (v := 0) hx hb dX7_doPredict_107 (by decide) ?_
    refine lv_istore_n (lv' := [(1, .int 0), (0, .ref (q 0))]) hx hb dX7_doPredict_108 rfl hl (by decide) rfl (fun ls hl => ?_)
    obtain ⟨n109, hw⟩ := hw
    refine ml_X7_doPredict_109 C th sz sd ss pr me ab be post _ ?_ n109 _ _ _ _ _ _ _ _ hw hP hS (lv_sub hl [1, 0] rfl)
    · intro pi le sg wo H locs ls hw hP hS hl
      refine lv_iconst (v := 0) hx hb dX7_doPredict_211 (by decide) ?_
      refine lv_istore_n (lv' := [(1, .int 0), (0, .ref (q 0))]) hx hb dX7_doPredict_212 rfl hl (by decide) rfl (fun ls hl => ?_)
      obtain ⟨n213, hw⟩ := hw
      refine ml_X7_doPredict_213 C th sz sd ss pr me ab be post _ ?_ n213 _ _ _ _ _ _ _ _ hw hP hS (lv_sub hl [1, 0] rfl)
      · intro pi le sg wo H locs ls hw hP hS hl
        refine lv_iconst (v := 0) hx hb dX7_doPredict_287 (by decide) ?_
        refine lv_istore_n (lv' := [(1, .int 0), (0, .ref (q 0))]) hx hb dX7_doPredict_288 rfl hl (by decide) rfl (fun ls hl => ?_)
        obtain ⟨n289, hw⟩ := hw
        refine ml_X7_doPredict_289 C th sz sd ss pr me ab be post _ ?_ n289 _ _ _ _ _ _ _ _ hw hP hS (lv_sub hl [1, 0] rfl)
        · intro pi le sg wo H locs ls hw hP hS hl
          exact W.vret hx hb hr (fun t ht hW => ⟨⟨(pi, le, sg, wo), rfl, hw, by show va_P D vwCl _ t.heap; rw [ht]; exact hP⟩, hS.F ht⟩) hS.2.2 dX7_doPredict_312 hlocks
-- ===== ExactFilterModel.variance
abbrev rX7_variance : Room := { frames := 7, cells := 0, slots := 0, locals := 170 }
def wl_X7_variance_32 (sz : Int32) (ab : Nat → Int32) (be : Nat → Int32) (post : Int32 → (Nat → Int32) → (Nat → Int32) → (Nat → Int32) → (Nat → Int32) → Prop) (K83 : (Nat → Int32) → (Nat → Int32) → (Nat → Int32) → (Nat → Int32) → Int32 → Prop) : Nat → (Nat → Int32) → (Nat → Int32) → (Nat → Int32) → (Nat → Int32) → Int32 → Int32 → Prop
  | 0, _, _, _, _, _, _ => False
  | n + 1, pi, le, sg, wo, x1, x2 => (sz ≤ x2 → K83 pi le sg wo x1) ∧ (¬ sz ≤ x2 → wp_X7_model ab be pi le sg wo 20 5 x2 0 (fun (pi_46 : Nat → Int32) (le_46 : Nat → Int32) (sg_46 : Nat → Int32) (wo_46 : Nat → Int32) => wp_X7_cov  x1 x2 (fun (r_54 : Int32) => wp_X7_multiply pi_46 le_46 sg_46 wo_46 21 r_54 20 (fun (pi_59 : Nat → Int32) (le_59 : Nat → Int32) (sg_59 : Nat → Int32) (wo_59 : Nat → Int32) => wp_X7_add pi_59 le_59 sg_59 wo_59 (10 + x1) (10 + x1) 21 1 (fun (pi_74 : Nat → Int32) (le_74 : Nat → Int32) (sg_74 : Nat → Int32) (wo_74 : Nat → Int32) => ∀ (x2_77 : Int32), x2_77 = x2 + 1 → wl_X7_variance_32 sz ab be post K83 n pi_74 le_74 sg_74 wo_74 x1 x2_77)))))
def wl_X7_variance_12 (sz : Int32) (ab : Nat → Int32) (be : Nat → Int32) (post : Int32 → (Nat → Int32) → (Nat → Int32) → (Nat → Int32) → (Nat → Int32) → Prop) (K89 : (Nat → Int32) → (Nat → Int32) → (Nat → Int32) → (Nat → Int32) → Prop) : Nat → (Nat → Int32) → (Nat → Int32) → (Nat → Int32) → (Nat → Int32) → Int32 → Prop
  | 0, _, _, _, _, _ => False
  | n + 1, pi, le, sg, wo, x1 => (sz ≤ x1 → K89 pi le sg wo) ∧ (¬ sz ≤ x1 → wp_X7_fraction pi le sg wo (10 + x1) 0 1 (fun (pi_27 : Nat → Int32) (le_27 : Nat → Int32) (sg_27 : Nat → Int32) (wo_27 : Nat → Int32) => ∃ n32 : Nat, wl_X7_variance_32 sz ab be post (fun (pi : Nat → Int32) (le : Nat → Int32) (sg : Nat → Int32) (wo : Nat → Int32) (x1 : Int32) => ∀ (x1_83 : Int32), x1_83 = x1 + 1 → wl_X7_variance_12 sz ab be post K89 n pi le sg wo x1_83) n32 pi_27 le_27 sg_27 wo_27 x1 0))
def wl_X7_variance_91 (sz : Int32) (ab : Nat → Int32) (be : Nat → Int32) (post : Int32 → (Nat → Int32) → (Nat → Int32) → (Nat → Int32) → (Nat → Int32) → Prop) (K137 : (Nat → Int32) → (Nat → Int32) → (Nat → Int32) → (Nat → Int32) → Prop) : Nat → (Nat → Int32) → (Nat → Int32) → (Nat → Int32) → (Nat → Int32) → Int32 → Prop
  | 0, _, _, _, _, _ => False
  | n + 1, pi, le, sg, wo, x1 => (sz ≤ x1 → K137 pi le sg wo) ∧ (¬ sz ≤ x1 → wp_X7_model ab be pi le sg wo 20 5 x1 0 (fun (pi_105 : Nat → Int32) (le_105 : Nat → Int32) (sg_105 : Nat → Int32) (wo_105 : Nat → Int32) => wp_X7_multiply pi_105 le_105 sg_105 wo_105 21 20 (10 + x1) (fun (pi_117 : Nat → Int32) (le_117 : Nat → Int32) (sg_117 : Nat → Int32) (wo_117 : Nat → Int32) => wp_X7_add pi_117 le_117 sg_117 wo_117 12 12 21 1 (fun (pi_128 : Nat → Int32) (le_128 : Nat → Int32) (sg_128 : Nat → Int32) (wo_128 : Nat → Int32) => ∀ (x1_131 : Int32), x1_131 = x1 + 1 → wl_X7_variance_91 sz ab be post K137 n pi_128 le_128 sg_128 wo_128 x1_131))))
def wj_X7_variance_152 (sz : Int32) (ab : Nat → Int32) (be : Nat → Int32) (post : Int32 → (Nat → Int32) → (Nat → Int32) → (Nat → Int32) → (Nat → Int32) → Prop)  (pi : Nat → Int32) (le : Nat → Int32) (sg : Nat → Int32) (wo : Nat → Int32) (s0 : Int32) : Prop := narrow .boolean (.int s0) = .int s0 ∧ post s0 pi le sg wo
def wp_X7_variance (sz : Int32) (ab : Nat → Int32) (be : Nat → Int32) (pi : Nat → Int32) (le : Nat → Int32) (sg : Nat → Int32) (wo : Nat → Int32)  (post : Int32 → (Nat → Int32) → (Nat → Int32) → (Nat → Int32) → (Nat → Int32) → Prop) : Prop := wp_X7_model ab be pi le sg wo 12 6 0 0 (fun (pi_7 : Nat → Int32) (le_7 : Nat → Int32) (sg_7 : Nat → Int32) (wo_7 : Nat → Int32) => ∃ n12 : Nat, wl_X7_variance_12 sz ab be post (fun (pi : Nat → Int32) (le : Nat → Int32) (sg : Nat → Int32) (wo : Nat → Int32) => ∃ n91 : Nat, wl_X7_variance_91 sz ab be post (fun (pi : Nat → Int32) (le : Nat → Int32) (sg : Nat → Int32) (wo : Nat → Int32) => vp_in 12 24 ∧ ((sg (12 : Int32).toNatClampNeg) = 0 → wj_X7_variance_152 sz ab be post  pi le sg wo 0) ∧ (¬ (sg (12 : Int32).toNatClampNeg) = 0 → wj_X7_variance_152 sz ab be post  pi le sg wo 1)) n91 pi le sg wo 0) n12 pi_7 le_7 sg_7 wo_7 0)
set_option maxHeartbeats 4000000 in
set_option maxRecDepth 100000 in
theorem ml_X7_variance_32 (C : C7 p s m args meth c D cI q cX7_variance 3 (some .boolean)) (th : Int32) (sz : Int32) (sd : Int32) (ss : Int32) (pr : Int32) (me : Int32) (ab : Nat → Int32) (be : Nat → Int32) (post : Int32 → (Nat → Int32) → (Nat → Int32) → (Nat → Int32) → (Nat → Int32) → Prop) (K83 : (Nat → Int32) → (Nat → Int32) → (Nat → Int32) → (Nat → Int32) → Int32 → Prop)
    (hK83 : (∀ (pi : Nat → Int32) (le : Nat → Int32) (sg : Nat → Int32) (wo : Nat → Int32) (x1 : Int32) (H : Heap) (locs : List Loc) (ls : Array Slot), K83 pi le sg wo x1 → va_P D vwCl (w7 cI q th sz sd ss pr me ab be pi le sg wo) H → va_S (A7 q) s.heap H locs → lv_has ls 3 [(0, .ref (q 0)), (1, .int x1)] → W p l e rX7_variance s m args below meth c H locs 0 0 (MQ below (va_Qi (S := (Nat → Int32) × (Nat → Int32) × (Nat → Int32) × (Nat → Int32)) (fun r u => post r u.1 u.2.1 u.2.2.1 u.2.2.2) (fun u t => va_P D vwCl (w7 cI q th sz sd ss pr me ab be u.1 u.2.1 u.2.2.1 u.2.2.2) t.heap) (A7 q)) args s 0 0 (A7 q)) (F0 m 83 ls []))) :
    ∀ (n : Nat) (pi : Nat → Int32) (le : Nat → Int32) (sg : Nat → Int32) (wo : Nat → Int32) (x1 : Int32) (x2 : Int32) (H : Heap) (locs : List Loc) (ls : Array Slot), wl_X7_variance_32 sz ab be post K83 n pi le sg wo x1 x2 → va_P D vwCl (w7 cI q th sz sd ss pr me ab be pi le sg wo) H → va_S (A7 q) s.heap H locs → lv_has ls 3 [(0, .ref (q 0)), (1, .int x1), (2, .int x2)] → W p l e rX7_variance s m args below meth c H locs 0 0 (MQ below (va_Qi (S := (Nat → Int32) × (Nat → Int32) × (Nat → Int32) × (Nat → Int32)) (fun r u => post r u.1 u.2.1 u.2.2.1 u.2.2.2) (fun u t => va_P D vwCl (w7 cI q th sz sd ss pr me ab be u.1 u.2.1 u.2.2.1 u.2.2.2) t.heap) (A7 q)) args s 0 0 (A7 q)) (F0 m 32 ls []) := by
  obtain ⟨hx, hb, hr, hml, hown, hg, hlocks, hK, hap⟩ := id C
  intro n
  induction n with
  | zero => intro pi le sg wo x1 x2 H locs ls hw; exact absurd hw id
  | succ n ih =>
    intro pi le sg wo x1 x2 H locs ls hw hP hS hl
    refine lv_iload_n hx hb dX7_variance_32 rfl (lv_at hl 2 rfl) ?_
    refine lv_aload_n hx hb dX7_variance_33 rfl (lv_at hl 0 rfl) ?_
    refine va_get (D := D) (ci := 7) (v := .int sz) (C := RX7) (T := TX7) (N := 12) hx hb hg ku_X7 hown hK hP 0 rfl rfl 1 (by decide) (hg _ kf_X7_13) (fun _ h9 => h9) rfl dX7_variance_34 ?_
    refine lv_icmp_ge (tgt := 83) hx hb dX7_variance_37 (by decide) (fun hc37 => ?_) (fun hc37 => ?_)
    · have hw := hw.1 hc37
      exact hK83 _ _ _ _ _ _ _ _ hw hP hS (lv_sub hl [0, 1] rfl)
    · have hw := hw.2 hc37
      refine lv_aload_n hx hb dX7_variance_40 rfl (lv_at hl 0 rfl) ?_
      refine lv_bipush (v := 20) hx hb dX7_variance_41 (by decide) ?_
      refine lv_iconst (v := 5) hx hb dX7_variance_43 (by decide) ?_
      refine lv_iload_n hx hb dX7_variance_44 rfl (lv_at hl 2 rfl) ?_
      refine lv_iconst (v := 0) hx hb dX7_variance_45 (by decide) ?_
      refine va_callv (va_runV (As := [.int 20, .int 5, .int x2, .int 0]) (rest := []) ⟨hx, hb, hml, hown, hg⟩ (m_X7_model l D cI q th sz sd ss pr me ab be pi le sg wo 20 5 x2 0 _ hw) (cwV 4 hg (x_gV km_X7_117 ki_X7_model kz_X7_X7_model kn_X7 kk_X7_model) rfl rfl rfl (by decide +kernel) ⟨Nat.le_of_ble_eq_true rfl, Nat.le_of_ble_eq_true rfl⟩) (pre7V hP hK hap [.int 20, .int 5, .int x2, .int 0]) rfl rfl hl.1 rfl (lv_room (Nat.le_of_ble_eq_true rfl)) dX7_variance_46 ⟨Nat.zero_le _, Nat.zero_le _⟩) hS (fun _ _ h => h) (fun _ h => h) (fun  u t H locs ht hvm hw hP hz1 hk1 hS => ?_)
      obtain ⟨pi_46, le_46, sg_46, wo_46⟩ := u
      rw [ht] at hP; clear hz1 hk1 ht hvm
      try dsimp only at hw
      try dsimp only at hP
      refine lv_aload_n hx hb dX7_variance_49 rfl (lv_at hl 0 rfl) ?_
      refine lv_bipush (v := 21) hx hb dX7_variance_50 (by decide) ?_
      refine lv_iload_n hx hb dX7_variance_52 rfl (lv_at hl 1 rfl) ?_
      refine lv_iload_n hx hb dX7_variance_53 rfl (lv_at hl 2 rfl) ?_
      refine va_calli (va_runS (As := [.int x1, .int x2]) (rest := [.int 21, .ref (q 0)]) ⟨hx, hb, hml, hown, hg⟩ (m_X7_cov l x1 x2 _ hw) (va_cwS 2 hg (x_gS km_X7_121 ks_X7_cov kn_X7 kk_X7_cov) rfl rfl rfl (by decide +kernel) ⟨Nat.le_of_ble_eq_true rfl, Nat.le_of_ble_eq_true rfl⟩) pre7S rfl rfl hl.1 rfl (lv_room (Nat.le_of_ble_eq_true rfl)) dX7_variance_54 ⟨Nat.zero_le _, Nat.zero_le _⟩) hS (fun _ _ h => h.elim) (fun _ h => h.elim) (fun r_54 u t H1 locs1 ht hvm hw hB hz1 hk1 hS => ?_)
      have hP := hP.kept (fun k9 q9 h9 => hk1 q9.1 ((hP k9 q9 h9).lt) (fun z => z.elim))
      clear hB; generalize H1 = H at hP hS ⊢; generalize locs1 = locs at hS ⊢; try dsimp only at hw
      refine lv_bipush (v := 20) hx hb dX7_variance_57 (by decide) ?_
      refine va_callv (va_runV (As := [.int 21, .int r_54, .int 20]) (rest := []) ⟨hx, hb, hml, hown, hg⟩ (m_X7_multiply l D cI q th sz sd ss pr me ab be pi_46 le_46 sg_46 wo_46 21 r_54 20 _ hw) (cwV 3 hg (x_gV km_X7_124 ki_X7_multiply kz_X7_X7_multiply kn_X7 kk_X7_multiply) rfl rfl rfl (by decide +kernel) ⟨Nat.le_of_ble_eq_true rfl, Nat.le_of_ble_eq_true rfl⟩) (pre7V hP hK hap [.int 21, .int r_54, .int 20]) rfl rfl hl.1 rfl (lv_room (Nat.le_of_ble_eq_true rfl)) dX7_variance_59 ⟨Nat.zero_le _, Nat.zero_le _⟩) hS (fun _ _ h => h) (fun _ h => h) (fun  u t H locs ht hvm hw hP hz1 hk1 hS => ?_)
      obtain ⟨pi_59, le_59, sg_59, wo_59⟩ := u
      rw [ht] at hP; clear hz1 hk1 ht hvm
      try dsimp only at hw
      try dsimp only at hP
      refine lv_aload_n hx hb dX7_variance_62 rfl (lv_at hl 0 rfl) ?_
      refine lv_bipush (v := 10) hx hb dX7_variance_63 (by decide) ?_
      refine lv_iload_n hx hb dX7_variance_65 rfl (lv_at hl 1 rfl) ?_
      refine lv_iadd hx hb dX7_variance_66 ?_
      refine lv_bipush (v := 10) hx hb dX7_variance_67 (by decide) ?_
      refine lv_iload_n hx hb dX7_variance_69 rfl (lv_at hl 1 rfl) ?_
      refine lv_iadd hx hb dX7_variance_70 ?_
      refine lv_bipush (v := 21) hx hb dX7_variance_71 (by decide) ?_
      refine lv_iconst (v := 1) hx hb dX7_variance_73 (by decide) ?_
      refine va_callv (va_runV (As := [.int (10 + x1), .int (10 + x1), .int 21, .int 1]) (rest := []) ⟨hx, hb, hml, hown, hg⟩ (m_X7_add l D cI q th sz sd ss pr me ab be pi_59 le_59 sg_59 wo_59 (10 + x1) (10 + x1) 21 1 _ hw) (cwV 4 hg (x_gV km_X7_127 ki_X7_add kz_X7_X7_add kn_X7 kk_X7_add) rfl rfl rfl (by decide +kernel) ⟨Nat.le_of_ble_eq_true rfl, Nat.le_of_ble_eq_true rfl⟩) (pre7V hP hK hap [.int (10 + x1), .int (10 + x1), .int 21, .int 1]) rfl rfl hl.1 rfl (lv_room (Nat.le_of_ble_eq_true rfl)) dX7_variance_74 ⟨Nat.zero_le _, Nat.zero_le _⟩) hS (fun _ _ h => h) (fun _ h => h) (fun  u t H locs ht hvm hw hP hz1 hk1 hS => ?_)
      obtain ⟨pi_74, le_74, sg_74, wo_74⟩ := u
      rw [ht] at hP; clear hz1 hk1 ht hvm
      try dsimp only at hw
      try dsimp only at hP
      obtain ⟨x2_77, ex2_77⟩ : ∃ y : Int32, y = x2 + 1 := ⟨_, rfl⟩
      have hw := hw x2_77 ex2_77
      refine lv_iinc (v := x2_77) (lv' := [(2, .int x2_77), (0, .ref (q 0)), (1, .int x1)]) hx hb dX7_variance_77 hl (k := 2) rfl (by rw [ex2_77]; rfl) (by decide) rfl (fun ls hl => ?_)
      refine lv_goto (tgt := 32) hx hb dX7_variance_80 (by decide) ?_
      exact ih _ _ _ _ _ _ _ _ _ hw hP hS (lv_sub hl [1, 2, 0] rfl)
set_option maxHeartbeats 4000000 in
set_option maxRecDepth 100000 in
theorem ml_X7_variance_12 (C : C7 p s m args meth c D cI q cX7_variance 3 (some .boolean)) (th : Int32) (sz : Int32) (sd : Int32) (ss : Int32) (pr : Int32) (me : Int32) (ab : Nat → Int32) (be : Nat → Int32) (post : Int32 → (Nat → Int32) → (Nat → Int32) → (Nat → Int32) → (Nat → Int32) → Prop) (K89 : (Nat → Int32) → (Nat → Int32) → (Nat → Int32) → (Nat → Int32) → Prop)
    (hK89 : (∀ (pi : Nat → Int32) (le : Nat → Int32) (sg : Nat → Int32) (wo : Nat → Int32) (H : Heap) (locs : List Loc) (ls : Array Slot), K89 pi le sg wo → va_P D vwCl (w7 cI q th sz sd ss pr me ab be pi le sg wo) H → va_S (A7 q) s.heap H locs → lv_has ls 3 [(0, .ref (q 0))] → W p l e rX7_variance s m args below meth c H locs 0 0 (MQ below (va_Qi (S := (Nat → Int32) × (Nat → Int32) × (Nat → Int32) × (Nat → Int32)) (fun r u => post r u.1 u.2.1 u.2.2.1 u.2.2.2) (fun u t => va_P D vwCl (w7 cI q th sz sd ss pr me ab be u.1 u.2.1 u.2.2.1 u.2.2.2) t.heap) (A7 q)) args s 0 0 (A7 q)) (F0 m 89 ls []))) :
    ∀ (n : Nat) (pi : Nat → Int32) (le : Nat → Int32) (sg : Nat → Int32) (wo : Nat → Int32) (x1 : Int32) (H : Heap) (locs : List Loc) (ls : Array Slot), wl_X7_variance_12 sz ab be post K89 n pi le sg wo x1 → va_P D vwCl (w7 cI q th sz sd ss pr me ab be pi le sg wo) H → va_S (A7 q) s.heap H locs → lv_has ls 3 [(0, .ref (q 0)), (1, .int x1)] → W p l e rX7_variance s m args below meth c H locs 0 0 (MQ below (va_Qi (S := (Nat → Int32) × (Nat → Int32) × (Nat → Int32) × (Nat → Int32)) (fun r u => post r u.1 u.2.1 u.2.2.1 u.2.2.2) (fun u t => va_P D vwCl (w7 cI q th sz sd ss pr me ab be u.1 u.2.1 u.2.2.1 u.2.2.2) t.heap) (A7 q)) args s 0 0 (A7 q)) (F0 m 12 ls []) := by
  obtain ⟨hx, hb, hr, hml, hown, hg, hlocks, hK, hap⟩ := id C
  intro n
  induction n with
  | zero => intro pi le sg wo x1 H locs ls hw; exact absurd hw id
  | succ n ih =>
    intro pi le sg wo x1 H locs ls hw hP hS hl
    refine lv_iload_n hx hb dX7_variance_12 rfl (lv_at hl 1 rfl) ?_
    refine lv_aload_n hx hb dX7_variance_13 rfl (lv_at hl 0 rfl) ?_
    refine va_get (D := D) (ci := 7) (v := .int sz) (C := RX7) (T := TX7) (N := 12) hx hb hg ku_X7 hown hK hP 0 rfl rfl 1 (by decide) (hg _ kf_X7_13) (fun _ h9 => h9) rfl dX7_variance_14 ?_
    refine lv_icmp_ge (tgt := 89) hx hb dX7_variance_17 (by decide) (fun hc17 => ?_) (fun hc17 => ?_)
    · have hw := hw.1 hc17
      exact hK89 _ _ _ _ _ _ _ hw hP hS (lv_sub hl [0] rfl)
    · have hw := hw.2 hc17
      refine lv_aload_n hx hb dX7_variance_20 rfl (lv_at hl 0 rfl) ?_
      refine lv_bipush (v := 10) hx hb dX7_variance_21 (by decide) ?_
      refine lv_iload_n hx hb dX7_variance_23 rfl (lv_at hl 1 rfl) ?_
      refine lv_iadd hx hb dX7_variance_24 ?_
      refine lv_iconst (v := 0) hx hb dX7_variance_25 (by decide) ?_
      refine lv_iconst (v := 1) hx hb dX7_variance_26 (by decide) ?_
      refine va_callv (va_runV (As := [.int (10 + x1), .int 0, .int 1]) (rest := []) ⟨hx, hb, hml, hown, hg⟩ (m_X7_fraction l D cI q th sz sd ss pr me ab be pi le sg wo (10 + x1) 0 1 _ hw) (cwV 3 hg (x_gV km_X7_105 ki_X7_fraction kz_X7_X7_fraction kn_X7 kk_X7_fraction) rfl rfl rfl (by decide +kernel) ⟨Nat.le_of_ble_eq_true rfl, Nat.le_of_ble_eq_true rfl⟩) (pre7V hP hK hap [.int (10 + x1), .int 0, .int 1]) rfl rfl hl.1 rfl (lv_room (Nat.le_of_ble_eq_true rfl)) dX7_variance_27 ⟨Nat.zero_le _, Nat.zero_le _⟩) hS (fun _ _ h => h) (fun _ h => h) (fun  u t H locs ht hvm hw hP hz1 hk1 hS => ?_)
      obtain ⟨pi_27, le_27, sg_27, wo_27⟩ := u
      rw [ht] at hP; clear hz1 hk1 ht hvm
      try dsimp only at hw
      try dsimp only at hP
      refine lv_iconst (v := 0) hx hb dX7_variance_30 (by decide) ?_
      refine lv_istore_n (lv' := [(2, .int 0), (0, .ref (q 0)), (1, .int x1)]) hx hb dX7_variance_31 rfl hl (by decide) rfl (fun ls hl => ?_)
      obtain ⟨n32, hw⟩ := hw
      refine ml_X7_variance_32 C th sz sd ss pr me ab be post _ ?_ n32 _ _ _ _ _ _ _ _ _ hw hP hS (lv_sub hl [1, 2, 0] rfl)
      · intro pi le sg wo x1 H locs ls hw hP hS hl
        obtain ⟨x1_83, ex1_83⟩ : ∃ y : Int32, y = x1 + 1 := ⟨_, rfl⟩
        have hw := hw x1_83 ex1_83
        refine lv_iinc (v := x1_83) (lv' := [(1, .int x1_83), (0, .ref (q 0))]) hx hb dX7_variance_83 hl (k := 1) rfl (by rw [ex1_83]; rfl) (by decide) rfl (fun ls hl => ?_)
        refine lv_goto (tgt := 12) hx hb dX7_variance_86 (by decide) ?_
        exact ih _ _ _ _ _ _ _ _ hw hP hS (lv_sub hl [1, 0] rfl)
set_option maxHeartbeats 4000000 in
set_option maxRecDepth 100000 in
theorem ml_X7_variance_91 (C : C7 p s m args meth c D cI q cX7_variance 3 (some .boolean)) (th : Int32) (sz : Int32) (sd : Int32) (ss : Int32) (pr : Int32) (me : Int32) (ab : Nat → Int32) (be : Nat → Int32) (post : Int32 → (Nat → Int32) → (Nat → Int32) → (Nat → Int32) → (Nat → Int32) → Prop) (K137 : (Nat → Int32) → (Nat → Int32) → (Nat → Int32) → (Nat → Int32) → Prop)
    (hK137 : (∀ (pi : Nat → Int32) (le : Nat → Int32) (sg : Nat → Int32) (wo : Nat → Int32) (H : Heap) (locs : List Loc) (ls : Array Slot), K137 pi le sg wo → va_P D vwCl (w7 cI q th sz sd ss pr me ab be pi le sg wo) H → va_S (A7 q) s.heap H locs → lv_has ls 3 [(0, .ref (q 0))] → W p l e rX7_variance s m args below meth c H locs 0 0 (MQ below (va_Qi (S := (Nat → Int32) × (Nat → Int32) × (Nat → Int32) × (Nat → Int32)) (fun r u => post r u.1 u.2.1 u.2.2.1 u.2.2.2) (fun u t => va_P D vwCl (w7 cI q th sz sd ss pr me ab be u.1 u.2.1 u.2.2.1 u.2.2.2) t.heap) (A7 q)) args s 0 0 (A7 q)) (F0 m 137 ls []))) :
    ∀ (n : Nat) (pi : Nat → Int32) (le : Nat → Int32) (sg : Nat → Int32) (wo : Nat → Int32) (x1 : Int32) (H : Heap) (locs : List Loc) (ls : Array Slot), wl_X7_variance_91 sz ab be post K137 n pi le sg wo x1 → va_P D vwCl (w7 cI q th sz sd ss pr me ab be pi le sg wo) H → va_S (A7 q) s.heap H locs → lv_has ls 3 [(0, .ref (q 0)), (1, .int x1)] → W p l e rX7_variance s m args below meth c H locs 0 0 (MQ below (va_Qi (S := (Nat → Int32) × (Nat → Int32) × (Nat → Int32) × (Nat → Int32)) (fun r u => post r u.1 u.2.1 u.2.2.1 u.2.2.2) (fun u t => va_P D vwCl (w7 cI q th sz sd ss pr me ab be u.1 u.2.1 u.2.2.1 u.2.2.2) t.heap) (A7 q)) args s 0 0 (A7 q)) (F0 m 91 ls []) := by
  obtain ⟨hx, hb, hr, hml, hown, hg, hlocks, hK, hap⟩ := id C
  intro n
  induction n with
  | zero => intro pi le sg wo x1 H locs ls hw; exact absurd hw id
  | succ n ih =>
    intro pi le sg wo x1 H locs ls hw hP hS hl
    refine lv_iload_n hx hb dX7_variance_91 rfl (lv_at hl 1 rfl) ?_
    refine lv_aload_n hx hb dX7_variance_92 rfl (lv_at hl 0 rfl) ?_
    refine va_get (D := D) (ci := 7) (v := .int sz) (C := RX7) (T := TX7) (N := 12) hx hb hg ku_X7 hown hK hP 0 rfl rfl 1 (by decide) (hg _ kf_X7_13) (fun _ h9 => h9) rfl dX7_variance_93 ?_
    refine lv_icmp_ge (tgt := 137) hx hb dX7_variance_96 (by decide) (fun hc96 => ?_) (fun hc96 => ?_)
    · have hw := hw.1 hc96
      exact hK137 _ _ _ _ _ _ _ hw hP hS (lv_sub hl [0] rfl)
    · have hw := hw.2 hc96
      refine lv_aload_n hx hb dX7_variance_99 rfl (lv_at hl 0 rfl) ?_
      refine lv_bipush (v := 20) hx hb dX7_variance_100 (by decide) ?_
      refine lv_iconst (v := 5) hx hb dX7_variance_102 (by decide) ?_
      refine lv_iload_n hx hb dX7_variance_103 rfl (lv_at hl 1 rfl) ?_
      refine lv_iconst (v := 0) hx hb dX7_variance_104 (by decide) ?_
      refine va_callv (va_runV (As := [.int 20, .int 5, .int x1, .int 0]) (rest := []) ⟨hx, hb, hml, hown, hg⟩ (m_X7_model l D cI q th sz sd ss pr me ab be pi le sg wo 20 5 x1 0 _ hw) (cwV 4 hg (x_gV km_X7_117 ki_X7_model kz_X7_X7_model kn_X7 kk_X7_model) rfl rfl rfl (by decide +kernel) ⟨Nat.le_of_ble_eq_true rfl, Nat.le_of_ble_eq_true rfl⟩) (pre7V hP hK hap [.int 20, .int 5, .int x1, .int 0]) rfl rfl hl.1 rfl (lv_room (Nat.le_of_ble_eq_true rfl)) dX7_variance_105 ⟨Nat.zero_le _, Nat.zero_le _⟩) hS (fun _ _ h => h) (fun _ h => h) (fun  u t H locs ht hvm hw hP hz1 hk1 hS => ?_)
      obtain ⟨pi_105, le_105, sg_105, wo_105⟩ := u
      rw [ht] at hP; clear hz1 hk1 ht hvm
      try dsimp only at hw
      try dsimp only at hP
      refine lv_aload_n hx hb dX7_variance_108 rfl (lv_at hl 0 rfl) ?_
      refine lv_bipush (v := 21) hx hb dX7_variance_109 (by decide) ?_
      refine lv_bipush (v := 20) hx hb dX7_variance_111 (by decide) ?_
      refine lv_bipush (v := 10) hx hb dX7_variance_113 (by decide) ?_
      refine lv_iload_n hx hb dX7_variance_115 rfl (lv_at hl 1 rfl) ?_
      refine lv_iadd hx hb dX7_variance_116 ?_
      refine va_callv (va_runV (As := [.int 21, .int 20, .int (10 + x1)]) (rest := []) ⟨hx, hb, hml, hown, hg⟩ (m_X7_multiply l D cI q th sz sd ss pr me ab be pi_105 le_105 sg_105 wo_105 21 20 (10 + x1) _ hw) (cwV 3 hg (x_gV km_X7_124 ki_X7_multiply kz_X7_X7_multiply kn_X7 kk_X7_multiply) rfl rfl rfl (by decide +kernel) ⟨Nat.le_of_ble_eq_true rfl, Nat.le_of_ble_eq_true rfl⟩) (pre7V hP hK hap [.int 21, .int 20, .int (10 + x1)]) rfl rfl hl.1 rfl (lv_room (Nat.le_of_ble_eq_true rfl)) dX7_variance_117 ⟨Nat.zero_le _, Nat.zero_le _⟩) hS (fun _ _ h => h) (fun _ h => h) (fun  u t H locs ht hvm hw hP hz1 hk1 hS => ?_)
      obtain ⟨pi_117, le_117, sg_117, wo_117⟩ := u
      rw [ht] at hP; clear hz1 hk1 ht hvm
      try dsimp only at hw
      try dsimp only at hP
      refine lv_aload_n hx hb dX7_variance_120 rfl (lv_at hl 0 rfl) ?_
      refine lv_bipush (v := 12) hx hb dX7_variance_121 (by decide) ?_
      refine lv_bipush (v := 12) hx hb dX7_variance_123 (by decide) ?_
      refine lv_bipush (v := 21) hx hb dX7_variance_125 (by decide) ?_
      refine lv_iconst (v := 1) hx hb dX7_variance_127 (by decide) ?_
      refine va_callv (va_runV (As := [.int 12, .int 12, .int 21, .int 1]) (rest := []) ⟨hx, hb, hml, hown, hg⟩ (m_X7_add l D cI q th sz sd ss pr me ab be pi_117 le_117 sg_117 wo_117 12 12 21 1 _ hw) (cwV 4 hg (x_gV km_X7_127 ki_X7_add kz_X7_X7_add kn_X7 kk_X7_add) rfl rfl rfl (by decide +kernel) ⟨Nat.le_of_ble_eq_true rfl, Nat.le_of_ble_eq_true rfl⟩) (pre7V hP hK hap [.int 12, .int 12, .int 21, .int 1]) rfl rfl hl.1 rfl (lv_room (Nat.le_of_ble_eq_true rfl)) dX7_variance_128 ⟨Nat.zero_le _, Nat.zero_le _⟩) hS (fun _ _ h => h) (fun _ h => h) (fun  u t H locs ht hvm hw hP hz1 hk1 hS => ?_)
      obtain ⟨pi_128, le_128, sg_128, wo_128⟩ := u
      rw [ht] at hP; clear hz1 hk1 ht hvm
      try dsimp only at hw
      try dsimp only at hP
      obtain ⟨x1_131, ex1_131⟩ : ∃ y : Int32, y = x1 + 1 := ⟨_, rfl⟩
      have hw := hw x1_131 ex1_131
      refine lv_iinc (v := x1_131) (lv' := [(1, .int x1_131), (0, .ref (q 0))]) hx hb dX7_variance_131 hl (k := 1) rfl (by rw [ex1_131]; rfl) (by decide) rfl (fun ls hl => ?_)
      refine lv_goto (tgt := 91) hx hb dX7_variance_134 (by decide) ?_
      exact ih _ _ _ _ _ _ _ _ hw hP hS (lv_sub hl [1, 0] rfl)
set_option maxHeartbeats 4000000 in
set_option maxRecDepth 100000 in
theorem mj_X7_variance_152 (C : C7 p s m args meth c D cI q cX7_variance 3 (some .boolean)) (th : Int32) (sz : Int32) (sd : Int32) (ss : Int32) (pr : Int32) (me : Int32) (ab : Nat → Int32) (be : Nat → Int32) (post : Int32 → (Nat → Int32) → (Nat → Int32) → (Nat → Int32) → (Nat → Int32) → Prop) 
    
    (pi : Nat → Int32) (le : Nat → Int32) (sg : Nat → Int32) (wo : Nat → Int32) (s0 : Int32) (H : Heap) (locs : List Loc) (ls : Array Slot) (hw : wj_X7_variance_152 sz ab be post  pi le sg wo s0) (hP : va_P D vwCl (w7 cI q th sz sd ss pr me ab be pi le sg wo) H) (hS : va_S (A7 q) s.heap H locs) (hl : lv_has ls 3 []) : W p l e rX7_variance s m args below meth c H locs 0 0 (MQ below (va_Qi (S := (Nat → Int32) × (Nat → Int32) × (Nat → Int32) × (Nat → Int32)) (fun r u => post r u.1 u.2.1 u.2.2.1 u.2.2.2) (fun u t => va_P D vwCl (w7 cI q th sz sd ss pr me ab be u.1 u.2.1 u.2.2.1 u.2.2.2) t.heap) (A7 q)) args s 0 0 (A7 q)) (F0 m 152 ls [.int s0]) := by
  obtain ⟨hx, hb, hr, hml, hown, hg, hlocks, hK, hap⟩ := id C
  unfold wj_X7_variance_152 at hw
  exact W.zret (v := s0) hx hb hr hw.1 (fun t ht hW => ⟨⟨s0, (pi, le, sg, wo), rfl, hw.2, by show va_P D vwCl _ t.heap; rw [ht]; exact hP⟩, hS.F ht⟩) hS.2.2 dX7_variance_152 hlocks
set_option maxHeartbeats 4000000 in
set_option maxRecDepth 100000 in
theorem m_X7_variance (l : Launch) (D : va_G) (cI : ClassId) (q : Nat → Nat) (th : Int32) (sz : Int32) (sd : Int32) (ss : Int32) (pr : Int32) (me : Int32) (ab : Nat → Int32) (be : Nat → Int32) (pi : Nat → Int32) (le : Nat → Int32) (sg : Nat → Int32) (wo : Nat → Int32)  (post : Int32 → (Nat → Int32) → (Nat → Int32) → (Nat → Int32) → (Nat → Int32) → Prop) (hw : wp_X7_variance sz ab be pi le sg wo  post) : Met l yX7_variance (wu yX7_variance cX7_variance 3 (some .boolean)) rX7_variance (va_Pc [.ref (q 0)] (fun U => va_P D vwCl (w7 cI q th sz sd ss pr me ab be pi le sg wo) U.heap ∧ K7 D cI q U)) (va_Qi (S := (Nat → Int32) × (Nat → Int32) × (Nat → Int32) × (Nat → Int32)) (fun r u => post r u.1 u.2.1 u.2.2.1 u.2.2.2) (fun u t => va_P D vwCl (w7 cI q th sz sd ss pr me ab be u.1 u.2.1 u.2.2.1 u.2.2.2) t.heap) (A7 q)) 0 0 (A7 q) := by
  refine Met.ofW (cc := cX7_variance) (maxL := 3) (ret := (some .boolean)) (by decide) rfl ?_
  intro p e s m args below meth c s₁ B hml hv
  obtain ⟨rfl, hP, hK, hap⟩ := hv
  have C : C7 p s m _ meth c D cI q cX7_variance 3 (some .boolean) := ⟨B.exec, B.bytes, B.returns, hml, findClass_of_methodNamed B.named, x_hg (atoms_spec (ws := wu yX7_variance cX7_variance 3 (some .boolean)) B.pre), B.notSynchronized, hK, hap⟩
  obtain ⟨hx, hb, hr, hml, hown, hg, hlocks, hK, hap⟩ := id C
  have hS : va_S (A7 q) s.heap s.heap [] := va_S.rf
  have hl := lv_entry ([.ref (q 0)]) (n := 3) (Nat.le_of_ble_eq_true rfl)
  rw [lg_entry_eq]
  generalize (lg_sl ([.ref (q 0)]) ++ List.replicate (3 - (lg_sl ([.ref (q 0)])).length) Slot.unset).toArray = ls at hl ⊢
  have hl : lv_has ls 3 [(0, .ref (q 0))] := hl
  unfold wp_X7_variance at hw
  refine lv_aload_n hx hb dX7_variance_0 rfl (lv_at hl 0 rfl) ?_
  refine lv_bipush (v := 12) hx hb dX7_variance_1 (by decide) ?_
  refine lv_bipush (v := 6) hx hb dX7_variance_3 (by decide) ?_
  refine lv_iconst (v := 0) hx hb dX7_variance_5 (by decide) ?_
  refine lv_iconst (v := 0) hx hb dX7_variance_6 (by decide) ?_
  refine va_callv (va_runV (As := [.int 12, .int 6, .int 0, .int 0]) (rest := []) ⟨hx, hb, hml, hown, hg⟩ (m_X7_model l D cI q th sz sd ss pr me ab be pi le sg wo 12 6 0 0 _ hw) (cwV 4 hg (x_gV km_X7_117 ki_X7_model kz_X7_X7_model kn_X7 kk_X7_model) rfl rfl rfl (by decide +kernel) ⟨Nat.le_of_ble_eq_true rfl, Nat.le_of_ble_eq_true rfl⟩) (pre7V hP hK hap [.int 12, .int 6, .int 0, .int 0]) rfl rfl hl.1 rfl (lv_room (Nat.le_of_ble_eq_true rfl)) dX7_variance_7 ⟨Nat.zero_le _, Nat.zero_le _⟩) hS (fun _ _ h => h) (fun _ h => h) (fun  u t H locs ht hvm hw hP hz1 hk1 hS => ?_)
  obtain ⟨pi_7, le_7, sg_7, wo_7⟩ := u
  rw [ht] at hP; clear hz1 hk1 ht hvm
  try dsimp only at hw
  try dsimp only at hP
  refine lv_iconst (v := 0) hx hb dX7_variance_10 (by decide) ?_
  refine lv_istore_n (lv' := [(1, .int 0), (0, .ref (q 0))]) hx hb dX7_variance_11 rfl hl (by decide) rfl (fun ls hl => ?_)
  obtain ⟨n12, hw⟩ := hw
  refine ml_X7_variance_12 C th sz sd ss pr me ab be post _ ?_ n12 _ _ _ _ _ _ _ _ hw hP hS (lv_sub hl [1, 0] rfl)
  · intro pi le sg wo H locs ls hw hP hS hl
    refine lv_iconst (v := 0) hx hb dX7_variance_89 (by decide) ?_
    refine lv_istore_n (lv' := [(1, .int 0), (0, .ref (q 0))]) hx hb dX7_variance_90 rfl hl (by decide) rfl (fun ls hl => ?_)
    obtain ⟨n91, hw⟩ := hw
    refine ml_X7_variance_91 C th sz sd ss pr me ab be post _ ?_ n91 _ _ _ _ _ _ _ _ hw hP hS (lv_sub hl [1, 0] rfl)
    · intro pi le sg wo H locs ls hw hP hS hl
      refine lv_aload_n hx hb dX7_variance_137 rfl (lv_at hl 0 rfl) ?_
      refine va_get (D := D) (ci := 7) (v := .ref (q 5)) (C := RX7) (T := TX7) (N := 12) hx hb hg ku_X7 hown hK hP 0 rfl rfl 10 (by decide) (hg _ kf_X7_43) (fun _ h9 => h9) rfl dX7_variance_138 ?_
      refine lv_bipush (v := 12) hx hb dX7_variance_141 (by decide) ?_
      obtain ⟨hi143, hw⟩ := hw
      refine va_iald (D := D) hx hb hK hP 5 0 rfl rfl hi143 dX7_variance_143 ?_
      refine lv_if_eq (tgt := 151) hx hb dX7_variance_144 (by decide) (fun hc144 => ?_) (fun hc144 => ?_)
      · have hw := hw.1 hc144
        refine lv_iconst (v := 0) hx hb dX7_variance_151 (by decide) ?_
        exact mj_X7_variance_152 C th sz sd ss pr me ab be post  _ _ _ _ _ _ _ _ hw hP hS (lv_sub hl [] rfl)
      · have hw := hw.2 hc144
        refine lv_iconst (v := 1) hx hb dX7_variance_147 (by decide) ?_
        refine lv_goto (tgt := 152) hx hb dX7_variance_148 (by decide) ?_
        exact mj_X7_variance_152 C th sz sd ss pr me ab be post  _ _ _ _ _ _ _ _ hw hP hS (lv_sub hl [] rfl)
-- ===== ExactFilterModel.doMeasure
abbrev rX7_doMeasure : Room := { frames := 7, cells := 0, slots := 0, locals := 170 }
def wl_X7_doMeasure_18 (sz : Int32) (ab : Nat → Int32) (be : Nat → Int32) (post : (Nat → Int32) → (Nat → Int32) → (Nat → Int32) → (Nat → Int32) → Prop) (K61 : (Nat → Int32) → (Nat → Int32) → (Nat → Int32) → (Nat → Int32) → Prop) : Nat → (Nat → Int32) → (Nat → Int32) → (Nat → Int32) → (Nat → Int32) → Int32 → Prop
  | 0, _, _, _, _, _ => False
  | n + 1, pi, le, sg, wo, x3 => (sz ≤ x3 → K61 pi le sg wo) ∧ (¬ sz ≤ x3 → wp_X7_model ab be pi le sg wo 20 5 x3 0 (fun (pi_32 : Nat → Int32) (le_32 : Nat → Int32) (sg_32 : Nat → Int32) (wo_32 : Nat → Int32) => wp_X7_multiply pi_32 le_32 sg_32 wo_32 21 20 x3 (fun (pi_41 : Nat → Int32) (le_41 : Nat → Int32) (sg_41 : Nat → Int32) (wo_41 : Nat → Int32) => wp_X7_add pi_41 le_41 sg_41 wo_41 6 6 21 (-1) (fun (pi_52 : Nat → Int32) (le_52 : Nat → Int32) (sg_52 : Nat → Int32) (wo_52 : Nat → Int32) => ∀ (x3_55 : Int32), x3_55 = x3 + 1 → wl_X7_doMeasure_18 sz ab be post K61 n pi_52 le_52 sg_52 wo_52 x3_55))))
def wl_X7_doMeasure_63 (sz : Int32) (ab : Nat → Int32) (be : Nat → Int32) (post : (Nat → Int32) → (Nat → Int32) → (Nat → Int32) → (Nat → Int32) → Prop) (K112 : (Nat → Int32) → (Nat → Int32) → (Nat → Int32) → (Nat → Int32) → Prop) : Nat → (Nat → Int32) → (Nat → Int32) → (Nat → Int32) → (Nat → Int32) → Int32 → Prop
  | 0, _, _, _, _, _ => False
  | n + 1, pi, le, sg, wo, x3 => (sz ≤ x3 → K112 pi le sg wo) ∧ (¬ sz ≤ x3 → wp_X7_quotient pi le sg wo (8 + x3) (10 + x3) 7 (fun (pi_82 : Nat → Int32) (le_82 : Nat → Int32) (sg_82 : Nat → Int32) (wo_82 : Nat → Int32) => wp_X7_multiply pi_82 le_82 sg_82 wo_82 21 (8 + x3) 6 (fun (pi_94 : Nat → Int32) (le_94 : Nat → Int32) (sg_94 : Nat → Int32) (wo_94 : Nat → Int32) => wp_X7_add pi_94 le_94 sg_94 wo_94 x3 x3 21 1 (fun (pi_103 : Nat → Int32) (le_103 : Nat → Int32) (sg_103 : Nat → Int32) (wo_103 : Nat → Int32) => ∀ (x3_106 : Int32), x3_106 = x3 + 1 → wl_X7_doMeasure_63 sz ab be post K112 n pi_103 le_103 sg_103 wo_103 x3_106))))
def wl_X7_doMeasure_125 (sz : Int32) (ab : Nat → Int32) (be : Nat → Int32) (post : (Nat → Int32) → (Nat → Int32) → (Nat → Int32) → (Nat → Int32) → Prop) (K174 : (Nat → Int32) → (Nat → Int32) → (Nat → Int32) → (Nat → Int32) → Int32 → Prop) : Nat → (Nat → Int32) → (Nat → Int32) → (Nat → Int32) → (Nat → Int32) → Int32 → Int32 → Prop
  | 0, _, _, _, _, _, _ => False
  | n + 1, pi, le, sg, wo, x3, x4 => (sz ≤ x4 → K174 pi le sg wo x3) ∧ (¬ sz ≤ x4 → wp_X7_multiply pi le sg wo 21 (8 + x3) (10 + x4) (fun (pi_146 : Nat → Int32) (le_146 : Nat → Int32) (sg_146 : Nat → Int32) (wo_146 : Nat → Int32) => wp_X7_cov  x3 x4 (fun (r_153 : Int32) => wp_X7_cov  x3 x4 (fun (r_159 : Int32) => wp_X7_add pi_146 le_146 sg_146 wo_146 r_153 r_159 21 (-1) (fun (pi_165 : Nat → Int32) (le_165 : Nat → Int32) (sg_165 : Nat → Int32) (wo_165 : Nat → Int32) => ∀ (x4_168 : Int32), x4_168 = x4 + 1 → wl_X7_doMeasure_125 sz ab be post K174 n pi_165 le_165 sg_165 wo_165 x3 x4_168)))))
def wl_X7_doMeasure_114 (sz : Int32) (ab : Nat → Int32) (be : Nat → Int32) (post : (Nat → Int32) → (Nat → Int32) → (Nat → Int32) → (Nat → Int32) → Prop) (K180 : (Nat → Int32) → (Nat → Int32) → (Nat → Int32) → (Nat → Int32) → Prop) : Nat → (Nat → Int32) → (Nat → Int32) → (Nat → Int32) → (Nat → Int32) → Int32 → Prop
  | 0, _, _, _, _, _ => False
  | n + 1, pi, le, sg, wo, x3 => (sz ≤ x3 → K180 pi le sg wo) ∧ (¬ sz ≤ x3 → ∃ n125 : Nat, wl_X7_doMeasure_125 sz ab be post (fun (pi : Nat → Int32) (le : Nat → Int32) (sg : Nat → Int32) (wo : Nat → Int32) (x3 : Int32) => ∀ (x3_174 : Int32), x3_174 = x3 + 1 → wl_X7_doMeasure_114 sz ab be post K180 n pi le sg wo x3_174) n125 pi le sg wo x3 0)
def wp_X7_doMeasure (sz : Int32) (ab : Nat → Int32) (be : Nat → Int32) (pi : Nat → Int32) (le : Nat → Int32) (sg : Nat → Int32) (wo : Nat → Int32) (x1 : Int32) (x2 : Int32) (post : (Nat → Int32) → (Nat → Int32) → (Nat → Int32) → (Nat → Int32) → Prop) : Prop := wp_X7_same pi le sg 7 12 (fun (pi_5 : Nat → Int32) (le_5 : Nat → Int32) (sg_5 : Nat → Int32) => wp_X7_fraction pi_5 le_5 sg_5 wo 6 x1 x2 (fun (pi_13 : Nat → Int32) (le_13 : Nat → Int32) (sg_13 : Nat → Int32) (wo_13 : Nat → Int32) => ∃ n18 : Nat, wl_X7_doMeasure_18 sz ab be post (fun (pi : Nat → Int32) (le : Nat → Int32) (sg : Nat → Int32) (wo : Nat → Int32) => ∃ n63 : Nat, wl_X7_doMeasure_63 sz ab be post (fun (pi : Nat → Int32) (le : Nat → Int32) (sg : Nat → Int32) (wo : Nat → Int32) => ∃ n114 : Nat, wl_X7_doMeasure_114 sz ab be post (fun (pi : Nat → Int32) (le : Nat → Int32) (sg : Nat → Int32) (wo : Nat → Int32) => post pi le sg wo) n114 pi le sg wo 0) n63 pi le sg wo 0) n18 pi_13 le_13 sg_13 wo_13 0))
set_option maxHeartbeats 4000000 in
set_option maxRecDepth 100000 in
theorem ml_X7_doMeasure_18 (C : C7 p s m args meth c D cI q cX7_doMeasure 5 none) (th : Int32) (sz : Int32) (sd : Int32) (ss : Int32) (pr : Int32) (me : Int32) (ab : Nat → Int32) (be : Nat → Int32) (post : (Nat → Int32) → (Nat → Int32) → (Nat → Int32) → (Nat → Int32) → Prop) (K61 : (Nat → Int32) → (Nat → Int32) → (Nat → Int32) → (Nat → Int32) → Prop)
    (hK61 : (∀ (pi : Nat → Int32) (le : Nat → Int32) (sg : Nat → Int32) (wo : Nat → Int32) (H : Heap) (locs : List Loc) (ls : Array Slot), K61 pi le sg wo → va_P D vwCl (w7 cI q th sz sd ss pr me ab be pi le sg wo) H → va_S (A7 q) s.heap H locs → lv_has ls 5 [(0, .ref (q 0))] → W p l e rX7_doMeasure s m args below meth c H locs 0 0 (MQ below (va_Qv (S := (Nat → Int32) × (Nat → Int32) × (Nat → Int32) × (Nat → Int32)) (fun u => post u.1 u.2.1 u.2.2.1 u.2.2.2) (fun u t => va_P D vwCl (w7 cI q th sz sd ss pr me ab be u.1 u.2.1 u.2.2.1 u.2.2.2) t.heap) (A7 q)) args s 0 0 (A7 q)) (F0 m 61 ls []))) :
    ∀ (n : Nat) (pi : Nat → Int32) (le : Nat → Int32) (sg : Nat → Int32) (wo : Nat → Int32) (x3 : Int32) (H : Heap) (locs : List Loc) (ls : Array Slot), wl_X7_doMeasure_18 sz ab be post K61 n pi le sg wo x3 → va_P D vwCl (w7 cI q th sz sd ss pr me ab be pi le sg wo) H → va_S (A7 q) s.heap H locs → lv_has ls 5 [(0, .ref (q 0)), (3, .int x3)] → W p l e rX7_doMeasure s m args below meth c H locs 0 0 (MQ below (va_Qv (S := (Nat → Int32) × (Nat → Int32) × (Nat → Int32) × (Nat → Int32)) (fun u => post u.1 u.2.1 u.2.2.1 u.2.2.2) (fun u t => va_P D vwCl (w7 cI q th sz sd ss pr me ab be u.1 u.2.1 u.2.2.1 u.2.2.2) t.heap) (A7 q)) args s 0 0 (A7 q)) (F0 m 18 ls []) := by
  obtain ⟨hx, hb, hr, hml, hown, hg, hlocks, hK, hap⟩ := id C
  intro n
  induction n with
  | zero => intro pi le sg wo x3 H locs ls hw; exact absurd hw id
  | succ n ih =>
    intro pi le sg wo x3 H locs ls hw hP hS hl
    refine lv_iload_n hx hb dX7_doMeasure_18 rfl (lv_at hl 1 rfl) ?_
    refine lv_aload_n hx hb dX7_doMeasure_19 rfl (lv_at hl 0 rfl) ?_
    refine va_get (D := D) (ci := 7) (v := .int sz) (C := RX7) (T := TX7) (N := 12) hx hb hg ku_X7 hown hK hP 0 rfl rfl 1 (by decide) (hg _ kf_X7_13) (fun _ h9 => h9) rfl dX7_doMeasure_20 ?_
    refine lv_icmp_ge (tgt := 61) hx hb dX7_doMeasure_23 (by decide) (fun hc23 => ?_) (fun hc23 => ?_)
    · have hw := hw.1 hc23
      exact hK61 _ _ _ _ _ _ _ hw hP hS (lv_sub hl [0] rfl)
    · have hw := hw.2 hc23
      refine lv_aload_n hx hb dX7_doMeasure_26 rfl (lv_at hl 0 rfl) ?_
      refine lv_bipush (v := 20) hx hb dX7_doMeasure_27 (by decide) ?_
      refine lv_iconst (v := 5) hx hb dX7_doMeasure_29 (by decide) ?_
      refine lv_iload_n hx hb dX7_doMeasure_30 rfl (lv_at hl 1 rfl) ?_
      refine lv_iconst (v := 0) hx hb dX7_doMeasure_31 (by decide) ?_
      refine va_callv (va_runV (As := [.int 20, .int 5, .int x3, .int 0]) (rest := []) ⟨hx, hb, hml, hown, hg⟩ (m_X7_model l D cI q th sz sd ss pr me ab be pi le sg wo 20 5 x3 0 _ hw) (cwV 4 hg (x_gV km_X7_117 ki_X7_model kz_X7_X7_model kn_X7 kk_X7_model) rfl rfl rfl (by decide +kernel) ⟨Nat.le_of_ble_eq_true rfl, Nat.le_of_ble_eq_true rfl⟩) (pre7V hP hK hap [.int 20, .int 5, .int x3, .int 0]) rfl rfl hl.1 rfl (lv_room (Nat.le_of_ble_eq_true rfl)) dX7_doMeasure_32 ⟨Nat.zero_le _, Nat.zero_le _⟩) hS (fun _ _ h => h) (fun _ h => h) (fun  u t H locs ht hvm hw hP hz1 hk1 hS => ?_)
      obtain ⟨pi_32, le_32, sg_32, wo_32⟩ := u
      rw [ht] at hP; clear hz1 hk1 ht hvm
      try dsimp only at hw
      try dsimp only at hP
      refine lv_aload_n hx hb dX7_doMeasure_35 rfl (lv_at hl 0 rfl) ?_
      refine lv_bipush (v := 21) hx hb dX7_doMeasure_36 (by decide) ?_
      refine lv_bipush (v := 20) hx hb dX7_doMeasure_38 (by decide) ?_
      refine lv_iload_n hx hb dX7_doMeasure_40 rfl (lv_at hl 1 rfl) ?_
      refine va_callv (va_runV (As := [.int 21, .int 20, .int x3]) (rest := []) ⟨hx, hb, hml, hown, hg⟩ (m_X7_multiply l D cI q th sz sd ss pr me ab be pi_32 le_32 sg_32 wo_32 21 20 x3 _ hw) (cwV 3 hg (x_gV km_X7_124 ki_X7_multiply kz_X7_X7_multiply kn_X7 kk_X7_multiply) rfl rfl rfl (by decide +kernel) ⟨Nat.le_of_ble_eq_true rfl, Nat.le_of_ble_eq_true rfl⟩) (pre7V hP hK hap [.int 21, .int 20, .int x3]) rfl rfl hl.1 rfl (lv_room (Nat.le_of_ble_eq_true rfl)) dX7_doMeasure_41 ⟨Nat.zero_le _, Nat.zero_le _⟩) hS (fun _ _ h => h) (fun _ h => h) (fun  u t H locs ht hvm hw hP hz1 hk1 hS => ?_)
      obtain ⟨pi_41, le_41, sg_41, wo_41⟩ := u
      rw [ht] at hP; clear hz1 hk1 ht hvm
      try dsimp only at hw
      try dsimp only at hP
      refine lv_aload_n hx hb dX7_doMeasure_44 rfl (lv_at hl 0 rfl) ?_
      refine lv_bipush (v := 6) hx hb dX7_doMeasure_45 (by decide) ?_
      refine lv_bipush (v := 6) hx hb dX7_doMeasure_47 (by decide) ?_
      refine lv_bipush (v := 21) hx hb dX7_doMeasure_49 (by decide) ?_
      refine lv_iconst (v := (-1)) hx hb dX7_doMeasure_51 (by decide) ?_
      refine va_callv (va_runV (As := [.int 6, .int 6, .int 21, .int (-1)]) (rest := []) ⟨hx, hb, hml, hown, hg⟩ (m_X7_add l D cI q th sz sd ss pr me ab be pi_41 le_41 sg_41 wo_41 6 6 21 (-1) _ hw) (cwV 4 hg (x_gV km_X7_127 ki_X7_add kz_X7_X7_add kn_X7 kk_X7_add) rfl rfl rfl (by decide +kernel) ⟨Nat.le_of_ble_eq_true rfl, Nat.le_of_ble_eq_true rfl⟩) (pre7V hP hK hap [.int 6, .int 6, .int 21, .int (-1)]) rfl rfl hl.1 rfl (lv_room (Nat.le_of_ble_eq_true rfl)) dX7_doMeasure_52 ⟨Nat.zero_le _, Nat.zero_le _⟩) hS (fun _ _ h => h) (fun _ h => h) (fun  u t H locs ht hvm hw hP hz1 hk1 hS => ?_)
      obtain ⟨pi_52, le_52, sg_52, wo_52⟩ := u
      rw [ht] at hP; clear hz1 hk1 ht hvm
      try dsimp only at hw
      try dsimp only at hP
      obtain ⟨x3_55, ex3_55⟩ : ∃ y : Int32, y = x3 + 1 := ⟨_, rfl⟩
      have hw := hw x3_55 ex3_55
      refine lv_iinc (v := x3_55) (lv' := [(3, .int x3_55), (0, .ref (q 0))]) hx hb dX7_doMeasure_55 hl (k := 1) rfl (by rw [ex3_55]; rfl) (by decide) rfl (fun ls hl => ?_)
      refine lv_goto (tgt := 18) hx hb dX7_doMeasure_58 (by decide) ?_
      exact ih _ _ _ _ _ _ _ _ hw hP hS (lv_sub hl [1, 0] rfl)
set_option maxHeartbeats 4000000 in
set_option maxRecDepth 100000 in
theorem ml_X7_doMeasure_63 (C : C7 p s m args meth c D cI q cX7_doMeasure 5 none) (th : Int32) (sz : Int32) (sd : Int32) (ss : Int32) (pr : Int32) (me : Int32) (ab : Nat → Int32) (be : Nat → Int32) (post : (Nat → Int32) → (Nat → Int32) → (Nat → Int32) → (Nat → Int32) → Prop) (K112 : (Nat → Int32) → (Nat → Int32) → (Nat → Int32) → (Nat → Int32) → Prop)
    (hK112 : (∀ (pi : Nat → Int32) (le : Nat → Int32) (sg : Nat → Int32) (wo : Nat → Int32) (H : Heap) (locs : List Loc) (ls : Array Slot), K112 pi le sg wo → va_P D vwCl (w7 cI q th sz sd ss pr me ab be pi le sg wo) H → va_S (A7 q) s.heap H locs → lv_has ls 5 [(0, .ref (q 0))] → W p l e rX7_doMeasure s m args below meth c H locs 0 0 (MQ below (va_Qv (S := (Nat → Int32) × (Nat → Int32) × (Nat → Int32) × (Nat → Int32)) (fun u => post u.1 u.2.1 u.2.2.1 u.2.2.2) (fun u t => va_P D vwCl (w7 cI q th sz sd ss pr me ab be u.1 u.2.1 u.2.2.1 u.2.2.2) t.heap) (A7 q)) args s 0 0 (A7 q)) (F0 m 112 ls []))) :
    ∀ (n : Nat) (pi : Nat → Int32) (le : Nat → Int32) (sg : Nat → Int32) (wo : Nat → Int32) (x3 : Int32) (H : Heap) (locs : List Loc) (ls : Array Slot), wl_X7_doMeasure_63 sz ab be post K112 n pi le sg wo x3 → va_P D vwCl (w7 cI q th sz sd ss pr me ab be pi le sg wo) H → va_S (A7 q) s.heap H locs → lv_has ls 5 [(0, .ref (q 0)), (3, .int x3)] → W p l e rX7_doMeasure s m args below meth c H locs 0 0 (MQ below (va_Qv (S := (Nat → Int32) × (Nat → Int32) × (Nat → Int32) × (Nat → Int32)) (fun u => post u.1 u.2.1 u.2.2.1 u.2.2.2) (fun u t => va_P D vwCl (w7 cI q th sz sd ss pr me ab be u.1 u.2.1 u.2.2.1 u.2.2.2) t.heap) (A7 q)) args s 0 0 (A7 q)) (F0 m 63 ls []) := by
  obtain ⟨hx, hb, hr, hml, hown, hg, hlocks, hK, hap⟩ := id C
  intro n
  induction n with
  | zero => intro pi le sg wo x3 H locs ls hw; exact absurd hw id
  | succ n ih =>
    intro pi le sg wo x3 H locs ls hw hP hS hl
    refine lv_iload_n hx hb dX7_doMeasure_63 rfl (lv_at hl 1 rfl) ?_
    refine lv_aload_n hx hb dX7_doMeasure_64 rfl (lv_at hl 0 rfl) ?_
    refine va_get (D := D) (ci := 7) (v := .int sz) (C := RX7) (T := TX7) (N := 12) hx hb hg ku_X7 hown hK hP 0 rfl rfl 1 (by decide) (hg _ kf_X7_13) (fun _ h9 => h9) rfl dX7_doMeasure_65 ?_
    refine lv_icmp_ge (tgt := 112) hx hb dX7_doMeasure_68 (by decide) (fun hc68 => ?_) (fun hc68 => ?_)
    · have hw := hw.1 hc68
      exact hK112 _ _ _ _ _ _ _ hw hP hS (lv_sub hl [0] rfl)
    · have hw := hw.2 hc68
      refine lv_aload_n hx hb dX7_doMeasure_71 rfl (lv_at hl 0 rfl) ?_
      refine lv_bipush (v := 8) hx hb dX7_doMeasure_72 (by decide) ?_
      refine lv_iload_n hx hb dX7_doMeasure_74 rfl (lv_at hl 1 rfl) ?_
      refine lv_iadd hx hb dX7_doMeasure_75 ?_
      refine lv_bipush (v := 10) hx hb dX7_doMeasure_76 (by decide) ?_
      refine lv_iload_n hx hb dX7_doMeasure_78 rfl (lv_at hl 1 rfl) ?_
      refine lv_iadd hx hb dX7_doMeasure_79 ?_
      refine lv_bipush (v := 7) hx hb dX7_doMeasure_80 (by decide) ?_
      refine va_callv (va_runV (As := [.int (8 + x3), .int (10 + x3), .int 7]) (rest := []) ⟨hx, hb, hml, hown, hg⟩ (m_X7_quotient l D cI q th sz sd ss pr me ab be pi le sg wo (8 + x3) (10 + x3) 7 _ hw) (cwV 3 hg (x_gV km_X7_133 ki_X7_quotient kz_X7_X7_quotient kn_X7 kk_X7_quotient) rfl rfl rfl (by decide +kernel) ⟨Nat.le_of_ble_eq_true rfl, Nat.le_of_ble_eq_true rfl⟩) (pre7V hP hK hap [.int (8 + x3), .int (10 + x3), .int 7]) rfl rfl hl.1 rfl (lv_room (Nat.le_of_ble_eq_true rfl)) dX7_doMeasure_82 ⟨Nat.zero_le _, Nat.zero_le _⟩) hS (fun _ _ h => h) (fun _ h => h) (fun  u t H locs ht hvm hw hP hz1 hk1 hS => ?_)
      obtain ⟨pi_82, le_82, sg_82, wo_82⟩ := u
      rw [ht] at hP; clear hz1 hk1 ht hvm
      try dsimp only at hw
      try dsimp only at hP
      refine lv_aload_n hx hb dX7_doMeasure_85 rfl (lv_at hl 0 rfl) ?_
      refine lv_bipush (v := 21) hx hb dX7_doMeasure_86 (by decide) ?_
      refine lv_bipush (v := 8) hx hb dX7_doMeasure_88 (by decide) ?_
      refine lv_iload_n hx hb dX7_doMeasure_90 rfl (lv_at hl 1 rfl) ?_
      refine lv_iadd hx hb dX7_doMeasure_91 ?_
      refine lv_bipush (v := 6) hx hb dX7_doMeasure_92 (by decide) ?_
      refine va_callv (va_runV (As := [.int 21, .int (8 + x3), .int 6]) (rest := []) ⟨hx, hb, hml, hown, hg⟩ (m_X7_multiply l D cI q th sz sd ss pr me ab be pi_82 le_82 sg_82 wo_82 21 (8 + x3) 6 _ hw) (cwV 3 hg (x_gV km_X7_124 ki_X7_multiply kz_X7_X7_multiply kn_X7 kk_X7_multiply) rfl rfl rfl (by decide +kernel) ⟨Nat.le_of_ble_eq_true rfl, Nat.le_of_ble_eq_true rfl⟩) (pre7V hP hK hap [.int 21, .int (8 + x3), .int 6]) rfl rfl hl.1 rfl (lv_room (Nat.le_of_ble_eq_true rfl)) dX7_doMeasure_94 ⟨Nat.zero_le _, Nat.zero_le _⟩) hS (fun _ _ h => h) (fun _ h => h) (fun  u t H locs ht hvm hw hP hz1 hk1 hS => ?_)
      obtain ⟨pi_94, le_94, sg_94, wo_94⟩ := u
      rw [ht] at hP; clear hz1 hk1 ht hvm
      try dsimp only at hw
      try dsimp only at hP
      refine lv_aload_n hx hb dX7_doMeasure_97 rfl (lv_at hl 0 rfl) ?_
      refine lv_iload_n hx hb dX7_doMeasure_98 rfl (lv_at hl 1 rfl) ?_
      refine lv_iload_n hx hb dX7_doMeasure_99 rfl (lv_at hl 1 rfl) ?_
      refine lv_bipush (v := 21) hx hb dX7_doMeasure_100 (by decide) ?_
      refine lv_iconst (v := 1) hx hb dX7_doMeasure_102 (by decide) ?_
      refine va_callv (va_runV (As := [.int x3, .int x3, .int 21, .int 1]) (rest := []) ⟨hx, hb, hml, hown, hg⟩ (m_X7_add l D cI q th sz sd ss pr me ab be pi_94 le_94 sg_94 wo_94 x3 x3 21 1 _ hw) (cwV 4 hg (x_gV km_X7_127 ki_X7_add kz_X7_X7_add kn_X7 kk_X7_add) rfl rfl rfl (by decide +kernel) ⟨Nat.le_of_ble_eq_true rfl, Nat.le_of_ble_eq_true rfl⟩) (pre7V hP hK hap [.int x3, .int x3, .int 21, .int 1]) rfl rfl hl.1 rfl (lv_room (Nat.le_of_ble_eq_true rfl)) dX7_doMeasure_103 ⟨Nat.zero_le _, Nat.zero_le _⟩) hS (fun _ _ h => h) (fun _ h => h) (fun  u t H locs ht hvm hw hP hz1 hk1 hS => ?_)
      obtain ⟨pi_103, le_103, sg_103, wo_103⟩ := u
      rw [ht] at hP; clear hz1 hk1 ht hvm
      try dsimp only at hw
      try dsimp only at hP
      obtain ⟨x3_106, ex3_106⟩ : ∃ y : Int32, y = x3 + 1 := ⟨_, rfl⟩
      have hw := hw x3_106 ex3_106
      refine lv_iinc (v := x3_106) (lv' := [(3, .int x3_106), (0, .ref (q 0))]) hx hb dX7_doMeasure_106 hl (k := 1) rfl (by rw [ex3_106]; rfl) (by decide) rfl (fun ls hl => ?_)
      refine lv_goto (tgt := 63) hx hb dX7_doMeasure_109 (by decide) ?_
      exact ih _ _ _ _ _ _ _ _ hw hP hS (lv_sub hl [1, 0] rfl)
set_option maxHeartbeats 4000000 in
set_option maxRecDepth 100000 in
theorem ml_X7_doMeasure_125 (C : C7 p s m args meth c D cI q cX7_doMeasure 5 none) (th : Int32) (sz : Int32) (sd : Int32) (ss : Int32) (pr : Int32) (me : Int32) (ab : Nat → Int32) (be : Nat → Int32) (post : (Nat → Int32) → (Nat → Int32) → (Nat → Int32) → (Nat → Int32) → Prop) (K174 : (Nat → Int32) → (Nat → Int32) → (Nat → Int32) → (Nat → Int32) → Int32 → Prop)
    (hK174 : (∀ (pi : Nat → Int32) (le : Nat → Int32) (sg : Nat → Int32) (wo : Nat → Int32) (x3 : Int32) (H : Heap) (locs : List Loc) (ls : Array Slot), K174 pi le sg wo x3 → va_P D vwCl (w7 cI q th sz sd ss pr me ab be pi le sg wo) H → va_S (A7 q) s.heap H locs → lv_has ls 5 [(0, .ref (q 0)), (3, .int x3)] → W p l e rX7_doMeasure s m args below meth c H locs 0 0 (MQ below (va_Qv (S := (Nat → Int32) × (Nat → Int32) × (Nat → Int32) × (Nat → Int32)) (fun u => post u.1 u.2.1 u.2.2.1 u.2.2.2) (fun u t => va_P D vwCl (w7 cI q th sz sd ss pr me ab be u.1 u.2.1 u.2.2.1 u.2.2.2) t.heap) (A7 q)) args s 0 0 (A7 q)) (F0 m 174 ls []))) :
    ∀ (n : Nat) (pi : Nat → Int32) (le : Nat → Int32) (sg : Nat → Int32) (wo : Nat → Int32) (x3 : Int32) (x4 : Int32) (H : Heap) (locs : List Loc) (ls : Array Slot), wl_X7_doMeasure_125 sz ab be post K174 n pi le sg wo x3 x4 → va_P D vwCl (w7 cI q th sz sd ss pr me ab be pi le sg wo) H → va_S (A7 q) s.heap H locs → lv_has ls 5 [(0, .ref (q 0)), (3, .int x3), (4, .int x4)] → W p l e rX7_doMeasure s m args below meth c H locs 0 0 (MQ below (va_Qv (S := (Nat → Int32) × (Nat → Int32) × (Nat → Int32) × (Nat → Int32)) (fun u => post u.1 u.2.1 u.2.2.1 u.2.2.2) (fun u t => va_P D vwCl (w7 cI q th sz sd ss pr me ab be u.1 u.2.1 u.2.2.1 u.2.2.2) t.heap) (A7 q)) args s 0 0 (A7 q)) (F0 m 125 ls []) := by
  obtain ⟨hx, hb, hr, hml, hown, hg, hlocks, hK, hap⟩ := id C
  intro n
  induction n with
  | zero => intro pi le sg wo x3 x4 H locs ls hw; exact absurd hw id
  | succ n ih =>
    intro pi le sg wo x3 x4 H locs ls hw hP hS hl
    refine lv_iload hx hb dX7_doMeasure_125 (lv_at hl 2 rfl) ?_
    refine lv_aload_n hx hb dX7_doMeasure_127 rfl (lv_at hl 0 rfl) ?_
    refine va_get (D := D) (ci := 7) (v := .int sz) (C := RX7) (T := TX7) (N := 12) hx hb hg ku_X7 hown hK hP 0 rfl rfl 1 (by decide) (hg _ kf_X7_13) (fun _ h9 => h9) rfl dX7_doMeasure_128 ?_
    refine lv_icmp_ge (tgt := 174) hx hb dX7_doMeasure_131 (by decide) (fun hc131 => ?_) (fun hc131 => ?_)
    · have hw := hw.1 hc131
      exact hK174 _ _ _ _ _ _ _ _ hw hP hS (lv_sub hl [0, 1] rfl)
    · have hw := hw.2 hc131
      refine lv_aload_n hx hb dX7_doMeasure_134 rfl (lv_at hl 0 rfl) ?_
      refine lv_bipush (v := 21) hx hb dX7_doMeasure_135 (by decide) ?_
      refine lv_bipush (v := 8) hx hb dX7_doMeasure_137 (by decide) ?_
      refine lv_iload_n hx hb dX7_doMeasure_139 rfl (lv_at hl 1 rfl) ?_
      refine lv_iadd hx hb dX7_doMeasure_140 ?_
      refine lv_bipush (v := 10) hx hb dX7_doMeasure_141 (by decide) ?_
      refine lv_iload hx hb dX7_doMeasure_143 (lv_at hl 2 rfl) ?_
      refine lv_iadd hx hb dX7_doMeasure_145 ?_
      refine va_callv (va_runV (As := [.int 21, .int (8 + x3), .int (10 + x4)]) (rest := []) ⟨hx, hb, hml, hown, hg⟩ (m_X7_multiply l D cI q th sz sd ss pr me ab be pi le sg wo 21 (8 + x3) (10 + x4) _ hw) (cwV 3 hg (x_gV km_X7_124 ki_X7_multiply kz_X7_X7_multiply kn_X7 kk_X7_multiply) rfl rfl rfl (by decide +kernel) ⟨Nat.le_of_ble_eq_true rfl, Nat.le_of_ble_eq_true rfl⟩) (pre7V hP hK hap [.int 21, .int (8 + x3), .int (10 + x4)]) rfl rfl hl.1 rfl (lv_room (Nat.le_of_ble_eq_true rfl)) dX7_doMeasure_146 ⟨Nat.zero_le _, Nat.zero_le _⟩) hS (fun _ _ h => h) (fun _ h => h) (fun  u t H locs ht hvm hw hP hz1 hk1 hS => ?_)
      obtain ⟨pi_146, le_146, sg_146, wo_146⟩ := u
      rw [ht] at hP; clear hz1 hk1 ht hvm
      try dsimp only at hw
      try dsimp only at hP
      refine lv_aload_n hx hb dX7_doMeasure_149 rfl (lv_at hl 0 rfl) ?_
      refine lv_iload_n hx hb dX7_doMeasure_150 rfl (lv_at hl 1 rfl) ?_
      refine lv_iload hx hb dX7_doMeasure_151 (lv_at hl 2 rfl) ?_
      refine va_calli (va_runS (As := [.int x3, .int x4]) (rest := [.ref (q 0)]) ⟨hx, hb, hml, hown, hg⟩ (m_X7_cov l x3 x4 _ hw) (va_cwS 2 hg (x_gS km_X7_121 ks_X7_cov kn_X7 kk_X7_cov) rfl rfl rfl (by decide +kernel) ⟨Nat.le_of_ble_eq_true rfl, Nat.le_of_ble_eq_true rfl⟩) pre7S rfl rfl hl.1 rfl (lv_room (Nat.le_of_ble_eq_true rfl)) dX7_doMeasure_153 ⟨Nat.zero_le _, Nat.zero_le _⟩) hS (fun _ _ h => h.elim) (fun _ h => h.elim) (fun r_153 u t H1 locs1 ht hvm hw hB hz1 hk1 hS => ?_)
      have hP := hP.kept (fun k9 q9 h9 => hk1 q9.1 ((hP k9 q9 h9).lt) (fun z => z.elim))
      clear hB; generalize H1 = H at hP hS ⊢; generalize locs1 = locs at hS ⊢; try dsimp only at hw
      refine lv_iload_n hx hb dX7_doMeasure_156 rfl (lv_at hl 1 rfl) ?_
      refine lv_iload hx hb dX7_doMeasure_157 (lv_at hl 2 rfl) ?_
      refine va_calli (va_runS (As := [.int x3, .int x4]) (rest := [.int r_153, .ref (q 0)]) ⟨hx, hb, hml, hown, hg⟩ (m_X7_cov l x3 x4 _ hw) (va_cwS 2 hg (x_gS km_X7_121 ks_X7_cov kn_X7 kk_X7_cov) rfl rfl rfl (by decide +kernel) ⟨Nat.le_of_ble_eq_true rfl, Nat.le_of_ble_eq_true rfl⟩) pre7S rfl rfl hl.1 rfl (lv_room (Nat.le_of_ble_eq_true rfl)) dX7_doMeasure_159 ⟨Nat.zero_le _, Nat.zero_le _⟩) hS (fun _ _ h => h.elim) (fun _ h => h.elim) (fun r_159 u t H1 locs1 ht hvm hw hB hz1 hk1 hS => ?_)
      have hP := hP.kept (fun k9 q9 h9 => hk1 q9.1 ((hP k9 q9 h9).lt) (fun z => z.elim))
      clear hB; generalize H1 = H at hP hS ⊢; generalize locs1 = locs at hS ⊢; try dsimp only at hw
      refine lv_bipush (v := 21) hx hb dX7_doMeasure_162 (by decide) ?_
      refine lv_iconst (v := (-1)) hx hb dX7_doMeasure_164 (by decide) ?_
      refine va_callv (va_runV (As := [.int r_153, .int r_159, .int 21, .int (-1)]) (rest := []) ⟨hx, hb, hml, hown, hg⟩ (m_X7_add l D cI q th sz sd ss pr me ab be pi_146 le_146 sg_146 wo_146 r_153 r_159 21 (-1) _ hw) (cwV 4 hg (x_gV km_X7_127 ki_X7_add kz_X7_X7_add kn_X7 kk_X7_add) rfl rfl rfl (by decide +kernel) ⟨Nat.le_of_ble_eq_true rfl, Nat.le_of_ble_eq_true rfl⟩) (pre7V hP hK hap [.int r_153, .int r_159, .int 21, .int (-1)]) rfl rfl hl.1 rfl (lv_room (Nat.le_of_ble_eq_true rfl)) dX7_doMeasure_165 ⟨Nat.zero_le _, Nat.zero_le _⟩) hS (fun _ _ h => h) (fun _ h => h) (fun  u t H locs ht hvm hw hP hz1 hk1 hS => ?_)
      obtain ⟨pi_165, le_165, sg_165, wo_165⟩ := u
      rw [ht] at hP; clear hz1 hk1 ht hvm
      try dsimp only at hw
      try dsimp only at hP
      obtain ⟨x4_168, ex4_168⟩ : ∃ y : Int32, y = x4 + 1 := ⟨_, rfl⟩
      have hw := hw x4_168 ex4_168
      refine lv_iinc (v := x4_168) (lv' := [(4, .int x4_168), (0, .ref (q 0)), (3, .int x3)]) hx hb dX7_doMeasure_168 hl (k := 2) rfl (by rw [ex4_168]; rfl) (by decide) rfl (fun ls hl => ?_)
      refine lv_goto (tgt := 125) hx hb dX7_doMeasure_171 (by decide) ?_
      exact ih _ _ _ _ _ _ _ _ _ hw hP hS (lv_sub hl [1, 2, 0] rfl)
set_option maxHeartbeats 4000000 in
set_option maxRecDepth 100000 in
theorem ml_X7_doMeasure_114 (C : C7 p s m args meth c D cI q cX7_doMeasure 5 none) (th : Int32) (sz : Int32) (sd : Int32) (ss : Int32) (pr : Int32) (me : Int32) (ab : Nat → Int32) (be : Nat → Int32) (post : (Nat → Int32) → (Nat → Int32) → (Nat → Int32) → (Nat → Int32) → Prop) (K180 : (Nat → Int32) → (Nat → Int32) → (Nat → Int32) → (Nat → Int32) → Prop)
    (hK180 : (∀ (pi : Nat → Int32) (le : Nat → Int32) (sg : Nat → Int32) (wo : Nat → Int32) (H : Heap) (locs : List Loc) (ls : Array Slot), K180 pi le sg wo → va_P D vwCl (w7 cI q th sz sd ss pr me ab be pi le sg wo) H → va_S (A7 q) s.heap H locs → lv_has ls 5 [] → W p l e rX7_doMeasure s m args below meth c H locs 0 0 (MQ below (va_Qv (S := (Nat → Int32) × (Nat → Int32) × (Nat → Int32) × (Nat → Int32)) (fun u => post u.1 u.2.1 u.2.2.1 u.2.2.2) (fun u t => va_P D vwCl (w7 cI q th sz sd ss pr me ab be u.1 u.2.1 u.2.2.1 u.2.2.2) t.heap) (A7 q)) args s 0 0 (A7 q)) (F0 m 180 ls []))) :
    ∀ (n : Nat) (pi : Nat → Int32) (le : Nat → Int32) (sg : Nat → Int32) (wo : Nat → Int32) (x3 : Int32) (H : Heap) (locs : List Loc) (ls : Array Slot), wl_X7_doMeasure_114 sz ab be post K180 n pi le sg wo x3 → va_P D vwCl (w7 cI q th sz sd ss pr me ab be pi le sg wo) H → va_S (A7 q) s.heap H locs → lv_has ls 5 [(0, .ref (q 0)), (3, .int x3)] → W p l e rX7_doMeasure s m args below meth c H locs 0 0 (MQ below (va_Qv (S := (Nat → Int32) × (Nat → Int32) × (Nat → Int32) × (Nat → Int32)) (fun u => post u.1 u.2.1 u.2.2.1 u.2.2.2) (fun u t => va_P D vwCl (w7 cI q th sz sd ss pr me ab be u.1 u.2.1 u.2.2.1 u.2.2.2) t.heap) (A7 q)) args s 0 0 (A7 q)) (F0 m 114 ls []) := by
  obtain ⟨hx, hb, hr, hml, hown, hg, hlocks, hK, hap⟩ := id C
  intro n
  induction n with
  | zero => intro pi le sg wo x3 H locs ls hw; exact absurd hw id
  | succ n ih =>
    intro pi le sg wo x3 H locs ls hw hP hS hl
    refine lv_iload_n hx hb dX7_doMeasure_114 rfl (lv_at hl 1 rfl) ?_
    refine lv_aload_n hx hb dX7_doMeasure_115 rfl (lv_at hl 0 rfl) ?_
    refine va_get (D := D) (ci := 7) (v := .int sz) (C := RX7) (T := TX7) (N := 12) hx hb hg ku_X7 hown hK hP 0 rfl rfl 1 (by decide) (hg _ kf_X7_13) (fun _ h9 => h9) rfl dX7_doMeasure_116 ?_
    refine lv_icmp_ge (tgt := 180) hx hb dX7_doMeasure_119 (by decide) (fun hc119 => ?_) (fun hc119 => ?_)
    · have hw := hw.1 hc119
      exact hK180 _ _ _ _ _ _ _ hw hP hS (lv_sub hl [] rfl)
    · have hw := hw.2 hc119
      refine lv_iconst (v := 0) hx hb dX7_doMeasure_122 (by decide) ?_
      refine lv_istore (lv' := [(4, .int 0), (0, .ref (q 0)), (3, .int x3)]) hx hb dX7_doMeasure_123 hl (by decide) rfl (fun ls hl => ?_)
      obtain ⟨n125, hw⟩ := hw
      refine ml_X7_doMeasure_125 C th sz sd ss pr me ab be post _ ?_ n125 _ _ _ _ _ _ _ _ _ hw hP hS (lv_sub hl [1, 2, 0] rfl)
      · intro pi le sg wo x3 H locs ls hw hP hS hl
        obtain ⟨x3_174, ex3_174⟩ : ∃ y : Int32, y = x3 + 1 := ⟨_, rfl⟩
        have hw := hw x3_174 ex3_174
        refine lv_iinc (v := x3_174) (lv' := [(3, .int x3_174), (0, .ref (q 0))]) hx hb dX7_doMeasure_174 hl (k := 1) rfl (by rw [ex3_174]; rfl) (by decide) rfl (fun ls hl => ?_)
        refine lv_goto (tgt := 114) hx hb dX7_doMeasure_177 (by decide) ?_
        exact ih _ _ _ _ _ _ _ _ hw hP hS (lv_sub hl [1, 0] rfl)
set_option maxHeartbeats 4000000 in
set_option maxRecDepth 100000 in
theorem m_X7_doMeasure (l : Launch) (D : va_G) (cI : ClassId) (q : Nat → Nat) (th : Int32) (sz : Int32) (sd : Int32) (ss : Int32) (pr : Int32) (me : Int32) (ab : Nat → Int32) (be : Nat → Int32) (pi : Nat → Int32) (le : Nat → Int32) (sg : Nat → Int32) (wo : Nat → Int32) (x1 : Int32) (x2 : Int32) (post : (Nat → Int32) → (Nat → Int32) → (Nat → Int32) → (Nat → Int32) → Prop) (hw : wp_X7_doMeasure sz ab be pi le sg wo x1 x2 post) : Met l yX7_doMeasure (wu yX7_doMeasure cX7_doMeasure 5 none) rX7_doMeasure (va_Pc [.ref (q 0), .int x1, .int x2] (fun U => va_P D vwCl (w7 cI q th sz sd ss pr me ab be pi le sg wo) U.heap ∧ K7 D cI q U)) (va_Qv (S := (Nat → Int32) × (Nat → Int32) × (Nat → Int32) × (Nat → Int32)) (fun u => post u.1 u.2.1 u.2.2.1 u.2.2.2) (fun u t => va_P D vwCl (w7 cI q th sz sd ss pr me ab be u.1 u.2.1 u.2.2.1 u.2.2.2) t.heap) (A7 q)) 0 0 (A7 q) := by
  refine Met.ofW (cc := cX7_doMeasure) (maxL := 5) (ret := none) (by decide) rfl ?_
  intro p e s m args below meth c s₁ B hml hv
  obtain ⟨rfl, hP, hK, hap⟩ := hv
  have C : C7 p s m _ meth c D cI q cX7_doMeasure 5 none := ⟨B.exec, B.bytes, B.returns, hml, findClass_of_methodNamed B.named, x_hg (atoms_spec (ws := wu yX7_doMeasure cX7_doMeasure 5 none) B.pre), B.notSynchronized, hK, hap⟩
  obtain ⟨hx, hb, hr, hml, hown, hg, hlocks, hK, hap⟩ := id C
  have hS : va_S (A7 q) s.heap s.heap [] := va_S.rf
  have hl := lv_entry ([.ref (q 0), .int x1, .int x2]) (n := 5) (Nat.le_of_ble_eq_true rfl)
  rw [lg_entry_eq]
  generalize (lg_sl ([.ref (q 0), .int x1, .int x2]) ++ List.replicate (5 - (lg_sl ([.ref (q 0), .int x1, .int x2])).length) Slot.unset).toArray = ls at hl ⊢
  have hl : lv_has ls 5 [(0, .ref (q 0)), (1, .int x1), (2, .int x2)] := hl
  unfold wp_X7_doMeasure at hw
  refine lv_aload_n hx hb dX7_doMeasure_0 rfl (lv_at hl 0 rfl) ?_
  refine lv_bipush (v := 7) hx hb dX7_doMeasure_1 (by decide) ?_
  refine lv_bipush (v := 12) hx hb dX7_doMeasure_3 (by decide) ?_
  refine va_callv (va_runV (As := [.int 7, .int 12]) (rest := []) ⟨hx, hb, hml, hown, hg⟩ (m_X7_same l D cI q th sz sd ss pr me ab be pi le sg wo 7 12 _ hw) (cwV 2 hg (x_gV km_X7_130 ki_X7_same kz_X7_X7_same kn_X7 kk_X7_same) rfl rfl rfl (by decide +kernel) ⟨Nat.le_of_ble_eq_true rfl, Nat.le_of_ble_eq_true rfl⟩) (pre7V hP hK hap [.int 7, .int 12]) rfl rfl hl.1 rfl (lv_room (Nat.le_of_ble_eq_true rfl)) dX7_doMeasure_5 ⟨Nat.zero_le _, Nat.zero_le _⟩) hS (fun _ _ h => h) (fun _ h => h) (fun  u t H locs ht hvm hw hP hz1 hk1 hS => ?_)
  obtain ⟨pi_5, le_5, sg_5⟩ := u
  rw [ht] at hP; clear hz1 hk1 ht hvm
  try dsimp only at hw
  try dsimp only at hP
  refine lv_aload_n hx hb dX7_doMeasure_8 rfl (lv_at hl 0 rfl) ?_
  refine lv_bipush (v := 6) hx hb dX7_doMeasure_9 (by decide) ?_
  refine lv_iload_n hx hb dX7_doMeasure_11 rfl (lv_at hl 1 rfl) ?_
  refine lv_iload_n hx hb dX7_doMeasure_12 rfl (lv_at hl 2 rfl) ?_
  refine va_callv (va_runV (As := [.int 6, .int x1, .int x2]) (rest := []) ⟨hx, hb, hml, hown, hg⟩ (m_X7_fraction l D cI q th sz sd ss pr me ab be pi_5 le_5 sg_5 wo 6 x1 x2 _ hw) (cwV 3 hg (x_gV km_X7_105 ki_X7_fraction kz_X7_X7_fraction kn_X7 kk_X7_fraction) rfl rfl rfl (by decide +kernel) ⟨Nat.le_of_ble_eq_true rfl, Nat.le_of_ble_eq_true rfl⟩) (pre7V hP hK hap [.int 6, .int x1, .int x2]) rfl rfl hl.1 rfl (lv_room (Nat.le_of_ble_eq_true rfl)) dX7_doMeasure_13 ⟨Nat.zero_le _, Nat.zero_le _⟩) hS (fun _ _ h => h) (fun _ h => h) (fun  u t H locs ht hvm hw hP hz1 hk1 hS => ?_)
  obtain ⟨pi_13, le_13, sg_13, wo_13⟩ := u
  rw [ht] at hP; clear hz1 hk1 ht hvm
  try dsimp only at hw
  try dsimp only at hP
  refine lv_iconst (v := 0) hx hb dX7_doMeasure_16 (by decide) ?_
  refine lv_istore_n (lv' := [(3, .int 0), (0, .ref (q 0)), (1, .int x1), (2, .int x2)]) hx hb dX7_doMeasure_17 rfl hl (by decide) rfl (fun ls hl => ?_)
  obtain ⟨n18, hw⟩ := hw
  refine ml_X7_doMeasure_18 C th sz sd ss pr me ab be post _ ?_ n18 _ _ _ _ _ _ _ _ hw hP hS (lv_sub hl [1, 0] rfl)
  · intro pi le sg wo H locs ls hw hP hS hl
    refine lv_iconst (v := 0) hx hb dX7_doMeasure_61 (by decide) ?_
    refine lv_istore_n (lv' := [(3, .int 0), (0, .ref (q 0))]) hx hb dX7_doMeasure_62 rfl hl (by decide) rfl (fun ls hl => ?_)
    obtain ⟨n63, hw⟩ := hw
    refine ml_X7_doMeasure_63 C th sz sd ss pr me ab be post _ ?_ n63 _ _ _ _ _ _ _ _ hw hP hS (lv_sub hl [1, 0] rfl)
    · intro pi le sg wo H locs ls hw hP hS hl
      refine lv_iconst (v := 0) hx hb dX7_doMeasure_112 (by decide) ?_
      refine lv_istore_n (lv' := [(3, .int 0), (0, .ref (q 0))]) hx hb dX7_doMeasure_113 rfl hl (by decide) rfl (fun ls hl => ?_)
      obtain ⟨n114, hw⟩ := hw
      refine ml_X7_doMeasure_114 C th sz sd ss pr me ab be post _ ?_ n114 _ _ _ _ _ _ _ _ hw hP hS (lv_sub hl [1, 0] rfl)
      · intro pi le sg wo H locs ls hw hP hS hl
        exact W.vret hx hb hr (fun t ht hW => ⟨⟨(pi, le, sg, wo), rfl, hw, by show va_P D vwCl _ t.heap; rw [ht]; exact hP⟩, hS.F ht⟩) hS.2.2 dX7_doMeasure_180 hlocks
-- ===== ExactFilterModel.fit
abbrev rX7_fit : Room := { frames := 1, cells := 0, slots := 0, locals := 22 }
def wj_X7_fit_48 (sz : Int32) (ab : Nat → Int32) (be : Nat → Int32) (post : Int32 → Prop)   : Prop := post 0 
def wj_X7_fit_138 (sz : Int32) (ab : Nat → Int32) (be : Nat → Int32) (post : Int32 → Prop)  (s0 : Int32) : Prop := narrow .boolean (.int s0) = .int s0 ∧ post s0 
def wj_X7_fit_50 (sz : Int32) (ab : Nat → Int32) (be : Nat → Int32) (post : Int32 → Prop)  (x1 : Int32) (x2 : Int64) (x4 : Int64) : Prop := (¬ sz = 1 → wp_X7_at  x1 0 1 (fun (r_67 : Int32) => vp_in r_67 40 ∧ ∀ (x6_72 : Int64), x6_72 = (((ab (r_67 : Int32).toNatClampNeg) : Int32).toInt64) → wp_X7_at  x1 0 1 (fun (r_81 : Int32) => vp_in r_81 40 ∧ ∀ (x8_86 : Int64), x8_86 = (((be (r_81 : Int32).toNatClampNeg) : Int32).toInt64) → wp_X7_at  x1 0 0 (fun (r_110 : Int32) => vp_in r_110 40 ∧ wp_X7_at  x1 1 1 (fun (r_123 : Int32) => vp_in r_123 40 ∧ ((((x2 * x4) * x8_86) * x8_86) < (((x6_72 * x6_72) * (((be (r_110 : Int32).toNatClampNeg) : Int32).toInt64)) * (((be (r_123 : Int32).toNatClampNeg) : Int32).toInt64)) → wj_X7_fit_138 sz ab be post  0) ∧ (¬ (((x2 * x4) * x8_86) * x8_86) < (((x6_72 * x6_72) * (((be (r_110 : Int32).toNatClampNeg) : Int32).toInt64)) * (((be (r_123 : Int32).toNatClampNeg) : Int32).toInt64)) → wj_X7_fit_138 sz ab be post  1)))))) ∧ (sz = 1 → post 1 )
def wp_X7_fit (sz : Int32) (ab : Nat → Int32) (be : Nat → Int32) (x1 : Int32) (post : Int32 → Prop) : Prop := wp_X7_at  x1 0 0 (fun (r_7 : Int32) => vp_in r_7 40 ∧ ∀ (x2_12 : Int64), x2_12 = (((ab (r_7 : Int32).toNatClampNeg) : Int32).toInt64) → wp_X7_at  x1 1 1 (fun (r_20 : Int32) => vp_in r_20 40 ∧ ∀ (x4_25 : Int64), x4_25 = (((ab (r_20 : Int32).toNatClampNeg) : Int32).toInt64) → (x2_12 < 0 → wj_X7_fit_48 sz ab be post  ) ∧ (¬ x2_12 < 0 → (¬ sz = 2 → wj_X7_fit_50 sz ab be post  x1 x2_12 x4_25) ∧ (sz = 2 → (0 ≤ x4_25 → wj_X7_fit_50 sz ab be post  x1 x2_12 x4_25) ∧ (¬ 0 ≤ x4_25 → wj_X7_fit_48 sz ab be post  )))))
set_option maxHeartbeats 4000000 in
set_option maxRecDepth 100000 in
theorem mj_X7_fit_48 (C : C7 p s m args meth c D cI q cX7_fit 10 (some .boolean)) (th : Int32) (sz : Int32) (sd : Int32) (ss : Int32) (pr : Int32) (me : Int32) (ab : Nat → Int32) (be : Nat → Int32) (pi : Nat → Int32) (le : Nat → Int32) (sg : Nat → Int32) (wo : Nat → Int32) (post : Int32 → Prop) 
    
     (H : Heap) (locs : List Loc) (ls : Array Slot) (hw : wj_X7_fit_48 sz ab be post  ) (hP : va_P D vwCl (w7 cI q th sz sd ss pr me ab be pi le sg wo) H) (hS : va_S (A7 q) s.heap H locs) (hl : lv_has ls 10 []) : W p l e rX7_fit s m args below meth c H locs 0 0 (MQ below (va_Qi (S := Unit) (fun r u => post r ) (fun u t => va_P D vwCl (w7 cI q th sz sd ss pr me ab be pi le sg wo) t.heap) (A7 q)) args s 0 0 (A7 q)) (F0 m 48 ls []) := by
  obtain ⟨hx, hb, hr, hml, hown, hg, hlocks, hK, hap⟩ := id C
  unfold wj_X7_fit_48 at hw
  refine lv_iconst (v := 0) hx hb dX7_fit_48 (by decide) ?_
  exact W.zret (v := 0) hx hb hr rfl (fun t ht hW => ⟨⟨0, (), rfl, hw, by show va_P D vwCl _ t.heap; rw [ht]; exact hP⟩, hS.F ht⟩) hS.2.2 dX7_fit_49 hlocks
set_option maxHeartbeats 4000000 in
set_option maxRecDepth 100000 in
theorem mj_X7_fit_138 (C : C7 p s m args meth c D cI q cX7_fit 10 (some .boolean)) (th : Int32) (sz : Int32) (sd : Int32) (ss : Int32) (pr : Int32) (me : Int32) (ab : Nat → Int32) (be : Nat → Int32) (pi : Nat → Int32) (le : Nat → Int32) (sg : Nat → Int32) (wo : Nat → Int32) (post : Int32 → Prop) 
    
    (s0 : Int32) (H : Heap) (locs : List Loc) (ls : Array Slot) (hw : wj_X7_fit_138 sz ab be post  s0) (hP : va_P D vwCl (w7 cI q th sz sd ss pr me ab be pi le sg wo) H) (hS : va_S (A7 q) s.heap H locs) (hl : lv_has ls 10 []) : W p l e rX7_fit s m args below meth c H locs 0 0 (MQ below (va_Qi (S := Unit) (fun r u => post r ) (fun u t => va_P D vwCl (w7 cI q th sz sd ss pr me ab be pi le sg wo) t.heap) (A7 q)) args s 0 0 (A7 q)) (F0 m 138 ls [.int s0]) := by
  obtain ⟨hx, hb, hr, hml, hown, hg, hlocks, hK, hap⟩ := id C
  unfold wj_X7_fit_138 at hw
  exact W.zret (v := s0) hx hb hr hw.1 (fun t ht hW => ⟨⟨s0, (), rfl, hw.2, by show va_P D vwCl _ t.heap; rw [ht]; exact hP⟩, hS.F ht⟩) hS.2.2 dX7_fit_138 hlocks
set_option maxHeartbeats 4000000 in
set_option maxRecDepth 100000 in
theorem mj_X7_fit_50 (C : C7 p s m args meth c D cI q cX7_fit 10 (some .boolean)) (th : Int32) (sz : Int32) (sd : Int32) (ss : Int32) (pr : Int32) (me : Int32) (ab : Nat → Int32) (be : Nat → Int32) (pi : Nat → Int32) (le : Nat → Int32) (sg : Nat → Int32) (wo : Nat → Int32) (post : Int32 → Prop) 
    
    (x1 : Int32) (x2 : Int64) (x4 : Int64) (H : Heap) (locs : List Loc) (ls : Array Slot) (hw : wj_X7_fit_50 sz ab be post  x1 x2 x4) (hP : va_P D vwCl (w7 cI q th sz sd ss pr me ab be pi le sg wo) H) (hS : va_S (A7 q) s.heap H locs) (hl : lv_has ls 10 [(0, .ref (q 0)), (1, .int x1), (2, .long x2), (4, .long x4)]) : W p l e rX7_fit s m args below meth c H locs 0 0 (MQ below (va_Qi (S := Unit) (fun r u => post r ) (fun u t => va_P D vwCl (w7 cI q th sz sd ss pr me ab be pi le sg wo) t.heap) (A7 q)) args s 0 0 (A7 q)) (F0 m 50 ls []) := by
  obtain ⟨hx, hb, hr, hml, hown, hg, hlocks, hK, hap⟩ := id C
  unfold wj_X7_fit_50 at hw
  refine lv_aload_n hx hb dX7_fit_50 rfl (lv_at hl 0 rfl) ?_
  refine va_get (D := D) (ci := 7) (v := .int sz) (C := RX7) (T := TX7) (N := 12) hx hb hg ku_X7 hown hK hP 0 rfl rfl 1 (by decide) (hg _ kf_X7_13) (fun _ h9 => h9) rfl dX7_fit_51 ?_
  refine lv_iconst (v := 1) hx hb dX7_fit_54 (by decide) ?_
  refine lv_icmp_ne (tgt := 60) hx hb dX7_fit_55 (by decide) (fun hc55 => ?_) (fun hc55 => ?_)
  · have hw := hw.1 hc55
    refine lv_aload_n hx hb dX7_fit_60 rfl (lv_at hl 0 rfl) ?_
    refine va_get (D := D) (ci := 7) (v := .ref (q 1)) (C := RX7) (T := TX7) (N := 12) hx hb hg ku_X7 hown hK hP 0 rfl rfl 2 (by decide) (hg _ kf_X7_16) (fun _ h9 => h9) rfl dX7_fit_61 ?_
    refine lv_iload_n hx hb dX7_fit_64 rfl (lv_at hl 1 rfl) ?_
    refine lv_iconst (v := 0) hx hb dX7_fit_65 (by decide) ?_
    refine lv_iconst (v := 1) hx hb dX7_fit_66 (by decide) ?_
    refine va_calli (va_runS (As := [.int x1, .int 0, .int 1]) (rest := [.ref (q 1)]) ⟨hx, hb, hml, hown, hg⟩ (m_X7_at l x1 0 1 _ hw) (va_cwS 3 hg (x_gS km_X7_53 ks_X7_at kn_X7 kk_X7_at) rfl rfl rfl (by decide +kernel) ⟨Nat.le_of_ble_eq_true rfl, Nat.le_of_ble_eq_true rfl⟩) pre7S rfl rfl hl.1 rfl (lv_room (Nat.le_of_ble_eq_true rfl)) dX7_fit_67 ⟨Nat.zero_le _, Nat.zero_le _⟩) hS (fun _ _ h => h.elim) (fun _ h => h.elim) (fun r_67 u t H1 locs1 ht hvm hw hB hz1 hk1 hS => ?_)
    have hP := hP.kept (fun k9 q9 h9 => hk1 q9.1 ((hP k9 q9 h9).lt) (fun z => z.elim))
    clear hB; generalize H1 = H at hP hS ⊢; generalize locs1 = locs at hS ⊢; try dsimp only at hw
    obtain ⟨hi70, hw⟩ := hw
    refine va_iald (D := D) hx hb hK hP 1 0 rfl rfl hi70 dX7_fit_70 ?_
    refine lv_i2l (v := ((ab (r_67 : Int32).toNatClampNeg) : Int32).toInt64) hx hb dX7_fit_71 rfl ?_
    refine lv_topl (fun x6_72 ex6_72 => ?_)
    have hw := hw x6_72 ex6_72
    refine lv_lstore (lv' := [(6, .long x6_72), (0, .ref (q 0)), (1, .int x1), (2, .long x2), (4, .long x4)]) hx hb dX7_fit_72 hl (by decide) rfl (fun ls hl => ?_)
    refine lv_aload_n hx hb dX7_fit_74 rfl (lv_at hl 1 rfl) ?_
    refine va_get (D := D) (ci := 7) (v := .ref (q 2)) (C := RX7) (T := TX7) (N := 12) hx hb hg ku_X7 hown hK hP 0 rfl rfl 3 (by decide) (hg _ kf_X7_20) (fun _ h9 => h9) rfl dX7_fit_75 ?_
    refine lv_iload_n hx hb dX7_fit_78 rfl (lv_at hl 2 rfl) ?_
    refine lv_iconst (v := 0) hx hb dX7_fit_79 (by decide) ?_
    refine lv_iconst (v := 1) hx hb dX7_fit_80 (by decide) ?_
    refine va_calli (va_runS (As := [.int x1, .int 0, .int 1]) (rest := [.ref (q 2)]) ⟨hx, hb, hml, hown, hg⟩ (m_X7_at l x1 0 1 _ hw) (va_cwS 3 hg (x_gS km_X7_53 ks_X7_at kn_X7 kk_X7_at) rfl rfl rfl (by decide +kernel) ⟨Nat.le_of_ble_eq_true rfl, Nat.le_of_ble_eq_true rfl⟩) pre7S rfl rfl hl.1 rfl (lv_room (Nat.le_of_ble_eq_true rfl)) dX7_fit_81 ⟨Nat.zero_le _, Nat.zero_le _⟩) hS (fun _ _ h => h.elim) (fun _ h => h.elim) (fun r_81 u t H1 locs1 ht hvm hw hB hz1 hk1 hS => ?_)
    have hP := hP.kept (fun k9 q9 h9 => hk1 q9.1 ((hP k9 q9 h9).lt) (fun z => z.elim))
    clear hB; generalize H1 = H at hP hS ⊢; generalize locs1 = locs at hS ⊢; try dsimp only at hw
    obtain ⟨hi84, hw⟩ := hw
    refine va_iald (D := D) hx hb hK hP 2 0 rfl rfl hi84 dX7_fit_84 ?_
    refine lv_i2l (v := ((be (r_81 : Int32).toNatClampNeg) : Int32).toInt64) hx hb dX7_fit_85 rfl ?_
    refine lv_topl (fun x8_86 ex8_86 => ?_)
    have hw := hw x8_86 ex8_86
    refine lv_lstore (lv' := [(8, .long x8_86), (6, .long x6_72), (0, .ref (q 0)), (1, .int x1), (2, .long x2), (4, .long x4)]) hx hb dX7_fit_86 hl (by decide) rfl (fun ls hl => ?_)
    refine lv_lload_n hx hb dX7_fit_88 rfl (lv_at hl 4 rfl) ?_
    refine lv_lload hx hb dX7_fit_89 (lv_at hl 5 rfl) ?_
    refine lv_lmul hx hb dX7_fit_91 ?_
    refine lv_lload hx hb dX7_fit_92 (lv_at hl 0 rfl) ?_
    refine lv_lmul hx hb dX7_fit_94 ?_
    refine lv_lload hx hb dX7_fit_95 (lv_at hl 0 rfl) ?_
    refine lv_lmul hx hb dX7_fit_97 ?_
    refine lv_lload hx hb dX7_fit_98 (lv_at hl 1 rfl) ?_
    refine lv_lload hx hb dX7_fit_100 (lv_at hl 1 rfl) ?_
    refine lv_lmul hx hb dX7_fit_102 ?_
    refine lv_aload_n hx hb dX7_fit_103 rfl (lv_at hl 2 rfl) ?_
    refine va_get (D := D) (ci := 7) (v := .ref (q 2)) (C := RX7) (T := TX7) (N := 12) hx hb hg ku_X7 hown hK hP 0 rfl rfl 3 (by decide) (hg _ kf_X7_20) (fun _ h9 => h9) rfl dX7_fit_104 ?_
    refine lv_iload_n hx hb dX7_fit_107 rfl (lv_at hl 3 rfl) ?_
    refine lv_iconst (v := 0) hx hb dX7_fit_108 (by decide) ?_
    refine lv_iconst (v := 0) hx hb dX7_fit_109 (by decide) ?_
    refine va_calli (va_runS (As := [.int x1, .int 0, .int 0]) (rest := [.ref (q 2), .long (x6_72 * x6_72), .long (((x2 * x4) * x8_86) * x8_86)]) ⟨hx, hb, hml, hown, hg⟩ (m_X7_at l x1 0 0 _ hw) (va_cwS 3 hg (x_gS km_X7_53 ks_X7_at kn_X7 kk_X7_at) rfl rfl rfl (by decide +kernel) ⟨Nat.le_of_ble_eq_true rfl, Nat.le_of_ble_eq_true rfl⟩) pre7S rfl rfl hl.1 rfl (lv_room (Nat.le_of_ble_eq_true rfl)) dX7_fit_110 ⟨Nat.zero_le _, Nat.zero_le _⟩) hS (fun _ _ h => h.elim) (fun _ h => h.elim) (fun r_110 u t H1 locs1 ht hvm hw hB hz1 hk1 hS => ?_)
    have hP := hP.kept (fun k9 q9 h9 => hk1 q9.1 ((hP k9 q9 h9).lt) (fun z => z.elim))
    clear hB; generalize H1 = H at hP hS ⊢; generalize locs1 = locs at hS ⊢; try dsimp only at hw
    obtain ⟨hi113, hw⟩ := hw
    refine va_iald (D := D) hx hb hK hP 2 0 rfl rfl hi113 dX7_fit_113 ?_
    refine lv_i2l (v := ((be (r_110 : Int32).toNatClampNeg) : Int32).toInt64) hx hb dX7_fit_114 rfl ?_
    refine lv_lmul hx hb dX7_fit_115 ?_
    refine lv_aload_n hx hb dX7_fit_116 rfl (lv_at hl 2 rfl) ?_
    refine va_get (D := D) (ci := 7) (v := .ref (q 2)) (C := RX7) (T := TX7) (N := 12) hx hb hg ku_X7 hown hK hP 0 rfl rfl 3 (by decide) (hg _ kf_X7_20) (fun _ h9 => h9) rfl dX7_fit_117 ?_
    refine lv_iload_n hx hb dX7_fit_120 rfl (lv_at hl 3 rfl) ?_
    refine lv_iconst (v := 1) hx hb dX7_fit_121 (by decide) ?_
    refine lv_iconst (v := 1) hx hb dX7_fit_122 (by decide) ?_
    refine va_calli (va_runS (As := [.int x1, .int 1, .int 1]) (rest := [.ref (q 2), .long ((x6_72 * x6_72) * (((be (r_110 : Int32).toNatClampNeg) : Int32).toInt64)), .long (((x2 * x4) * x8_86) * x8_86)]) ⟨hx, hb, hml, hown, hg⟩ (m_X7_at l x1 1 1 _ hw) (va_cwS 3 hg (x_gS km_X7_53 ks_X7_at kn_X7 kk_X7_at) rfl rfl rfl (by decide +kernel) ⟨Nat.le_of_ble_eq_true rfl, Nat.le_of_ble_eq_true rfl⟩) pre7S rfl rfl hl.1 rfl (lv_room (Nat.le_of_ble_eq_true rfl)) dX7_fit_123 ⟨Nat.zero_le _, Nat.zero_le _⟩) hS (fun _ _ h => h.elim) (fun _ h => h.elim) (fun r_123 u t H1 locs1 ht hvm hw hB hz1 hk1 hS => ?_)
    have hP := hP.kept (fun k9 q9 h9 => hk1 q9.1 ((hP k9 q9 h9).lt) (fun z => z.elim))
    clear hB; generalize H1 = H at hP hS ⊢; generalize locs1 = locs at hS ⊢; try dsimp only at hw
    obtain ⟨hi126, hw⟩ := hw
    refine va_iald (D := D) hx hb hK hP 2 0 rfl rfl hi126 dX7_fit_126 ?_
    refine lv_i2l (v := ((be (r_123 : Int32).toNatClampNeg) : Int32).toInt64) hx hb dX7_fit_127 rfl ?_
    refine lv_lmul hx hb dX7_fit_128 ?_
    refine W.lcmp hx hb dX7_fit_129 ?_
    refine lv_if_lt (tgt := 137) hx hb dX7_fit_130 (by decide) (fun hc130 => ?_) (fun hc130 => ?_)
    · have hw := hw.1 ((lg_cmp_lt _ _).mp hc130)
      refine lv_iconst (v := 0) hx hb dX7_fit_137 (by decide) ?_
      exact mj_X7_fit_138 C th sz sd ss pr me ab be pi le sg wo post  _ _ _ _ hw hP hS (lv_sub hl [] rfl)
    · have hw := hw.2 (fun z => hc130 ((lg_cmp_lt _ _).mpr z))
      refine lv_iconst (v := 1) hx hb dX7_fit_133 (by decide) ?_
      refine lv_goto (tgt := 138) hx hb dX7_fit_134 (by decide) ?_
      exact mj_X7_fit_138 C th sz sd ss pr me ab be pi le sg wo post  _ _ _ _ hw hP hS (lv_sub hl [] rfl)
  · have hw := hw.2 hc55
    refine lv_iconst (v := 1) hx hb dX7_fit_58 (by decide) ?_
    exact W.zret (v := 1) hx hb hr rfl (fun t ht hW => ⟨⟨1, (), rfl, hw, by show va_P D vwCl _ t.heap; rw [ht]; exact hP⟩, hS.F ht⟩) hS.2.2 dX7_fit_59 hlocks
set_option maxHeartbeats 4000000 in
set_option maxRecDepth 100000 in
theorem m_X7_fit (l : Launch) (D : va_G) (cI : ClassId) (q : Nat → Nat) (th : Int32) (sz : Int32) (sd : Int32) (ss : Int32) (pr : Int32) (me : Int32) (ab : Nat → Int32) (be : Nat → Int32) (pi : Nat → Int32) (le : Nat → Int32) (sg : Nat → Int32) (wo : Nat → Int32) (x1 : Int32) (post : Int32 → Prop) (hw : wp_X7_fit sz ab be x1 post) : Met l yX7_fit (wu yX7_fit cX7_fit 10 (some .boolean)) rX7_fit (va_Pc [.ref (q 0), .int x1] (fun U => va_P D vwCl (w7 cI q th sz sd ss pr me ab be pi le sg wo) U.heap ∧ K7 D cI q U)) (va_Qi (S := Unit) (fun r u => post r ) (fun u t => va_P D vwCl (w7 cI q th sz sd ss pr me ab be pi le sg wo) t.heap) (A7 q)) 0 0 (A7 q) := by
  refine Met.ofW (cc := cX7_fit) (maxL := 10) (ret := (some .boolean)) (by decide) rfl ?_
  intro p e s m args below meth c s₁ B hml hv
  obtain ⟨rfl, hP, hK, hap⟩ := hv
  have C : C7 p s m _ meth c D cI q cX7_fit 10 (some .boolean) := ⟨B.exec, B.bytes, B.returns, hml, findClass_of_methodNamed B.named, x_hg (atoms_spec (ws := wu yX7_fit cX7_fit 10 (some .boolean)) B.pre), B.notSynchronized, hK, hap⟩
  obtain ⟨hx, hb, hr, hml, hown, hg, hlocks, hK, hap⟩ := id C
  have hS : va_S (A7 q) s.heap s.heap [] := va_S.rf
  have hl := lv_entry ([.ref (q 0), .int x1]) (n := 10) (Nat.le_of_ble_eq_true rfl)
  rw [lg_entry_eq]
  generalize (lg_sl ([.ref (q 0), .int x1]) ++ List.replicate (10 - (lg_sl ([.ref (q 0), .int x1])).length) Slot.unset).toArray = ls at hl ⊢
  have hl : lv_has ls 10 [(0, .ref (q 0)), (1, .int x1)] := hl
  unfold wp_X7_fit at hw
  refine lv_aload_n hx hb dX7_fit_0 rfl (lv_at hl 0 rfl) ?_
  refine va_get (D := D) (ci := 7) (v := .ref (q 1)) (C := RX7) (T := TX7) (N := 12) hx hb hg ku_X7 hown hK hP 0 rfl rfl 2 (by decide) (hg _ kf_X7_16) (fun _ h9 => h9) rfl dX7_fit_1 ?_
  refine lv_iload_n hx hb dX7_fit_4 rfl (lv_at hl 1 rfl) ?_
  refine lv_iconst (v := 0) hx hb dX7_fit_5 (by decide) ?_
  refine lv_iconst (v := 0) hx hb dX7_fit_6 (by decide) ?_
  refine va_calli (va_runS (As := [.int x1, .int 0, .int 0]) (rest := [.ref (q 1)]) ⟨hx, hb, hml, hown, hg⟩ (m_X7_at l x1 0 0 _ hw) (va_cwS 3 hg (x_gS km_X7_53 ks_X7_at kn_X7 kk_X7_at) rfl rfl rfl (by decide +kernel) ⟨Nat.le_of_ble_eq_true rfl, Nat.le_of_ble_eq_true rfl⟩) pre7S rfl rfl hl.1 rfl (lv_room (Nat.le_of_ble_eq_true rfl)) dX7_fit_7 ⟨Nat.zero_le _, Nat.zero_le _⟩) hS (fun _ _ h => h.elim) (fun _ h => h.elim) (fun r_7 u t H1 locs1 ht hvm hw hB hz1 hk1 hS => ?_)
  have hP := hP.kept (fun k9 q9 h9 => hk1 q9.1 ((hP k9 q9 h9).lt) (fun z => z.elim))
  clear hB; generalize H1 = H at hP hS ⊢; generalize locs1 = locs at hS ⊢; try dsimp only at hw
  obtain ⟨hi10, hw⟩ := hw
  refine va_iald (D := D) hx hb hK hP 1 0 rfl rfl hi10 dX7_fit_10 ?_
  refine lv_i2l (v := ((ab (r_7 : Int32).toNatClampNeg) : Int32).toInt64) hx hb dX7_fit_11 rfl ?_
  refine lv_topl (fun x2_12 ex2_12 => ?_)
  have hw := hw x2_12 ex2_12
  refine lv_lstore_n (lv' := [(2, .long x2_12), (0, .ref (q 0)), (1, .int x1)]) hx hb dX7_fit_12 rfl hl (by decide) rfl (fun ls hl => ?_)
  refine lv_aload_n hx hb dX7_fit_13 rfl (lv_at hl 1 rfl) ?_
  refine va_get (D := D) (ci := 7) (v := .ref (q 1)) (C := RX7) (T := TX7) (N := 12) hx hb hg ku_X7 hown hK hP 0 rfl rfl 2 (by decide) (hg _ kf_X7_16) (fun _ h9 => h9) rfl dX7_fit_14 ?_
  refine lv_iload_n hx hb dX7_fit_17 rfl (lv_at hl 2 rfl) ?_
  refine lv_iconst (v := 1) hx hb dX7_fit_18 (by decide) ?_
  refine lv_iconst (v := 1) hx hb dX7_fit_19 (by decide) ?_
  refine va_calli (va_runS (As := [.int x1, .int 1, .int 1]) (rest := [.ref (q 1)]) ⟨hx, hb, hml, hown, hg⟩ (m_X7_at l x1 1 1 _ hw) (va_cwS 3 hg (x_gS km_X7_53 ks_X7_at kn_X7 kk_X7_at) rfl rfl rfl (by decide +kernel) ⟨Nat.le_of_ble_eq_true rfl, Nat.le_of_ble_eq_true rfl⟩) pre7S rfl rfl hl.1 rfl (lv_room (Nat.le_of_ble_eq_true rfl)) dX7_fit_20 ⟨Nat.zero_le _, Nat.zero_le _⟩) hS (fun _ _ h => h.elim) (fun _ h => h.elim) (fun r_20 u t H1 locs1 ht hvm hw hB hz1 hk1 hS => ?_)
  have hP := hP.kept (fun k9 q9 h9 => hk1 q9.1 ((hP k9 q9 h9).lt) (fun z => z.elim))
  clear hB; generalize H1 = H at hP hS ⊢; generalize locs1 = locs at hS ⊢; try dsimp only at hw
  obtain ⟨hi23, hw⟩ := hw
  refine va_iald (D := D) hx hb hK hP 1 0 rfl rfl hi23 dX7_fit_23 ?_
  refine lv_i2l (v := ((ab (r_20 : Int32).toNatClampNeg) : Int32).toInt64) hx hb dX7_fit_24 rfl ?_
  refine lv_topl (fun x4_25 ex4_25 => ?_)
  have hw := hw x4_25 ex4_25
  refine lv_lstore (lv' := [(4, .long x4_25), (2, .long x2_12), (0, .ref (q 0)), (1, .int x1)]) hx hb dX7_fit_25 hl (by decide) rfl (fun ls hl => ?_)
  refine lv_lload_n hx hb dX7_fit_27 rfl (lv_at hl 1 rfl) ?_
  refine lv_lconst (v := 0) hx hb dX7_fit_28 (by decide) ?_
  refine W.lcmp hx hb dX7_fit_29 ?_
  refine lv_if_lt (tgt := 48) hx hb dX7_fit_30 (by decide) (fun hc30 => ?_) (fun hc30 => ?_)
  · have hw := hw.1 ((lg_cmp_lt _ _).mp hc30)
    exact mj_X7_fit_48 C th sz sd ss pr me ab be pi le sg wo post   _ _ _ hw hP hS (lv_sub hl [] rfl)
  · have hw := hw.2 (fun z => hc30 ((lg_cmp_lt _ _).mpr z))
    refine lv_aload_n hx hb dX7_fit_33 rfl (lv_at hl 2 rfl) ?_
    refine va_get (D := D) (ci := 7) (v := .int sz) (C := RX7) (T := TX7) (N := 12) hx hb hg ku_X7 hown hK hP 0 rfl rfl 1 (by decide) (hg _ kf_X7_13) (fun _ h9 => h9) rfl dX7_fit_34 ?_
    refine lv_iconst (v := 2) hx hb dX7_fit_37 (by decide) ?_
    refine lv_icmp_ne (tgt := 50) hx hb dX7_fit_38 (by decide) (fun hc38 => ?_) (fun hc38 => ?_)
    · have hw := hw.1 hc38
      exact mj_X7_fit_50 C th sz sd ss pr me ab be pi le sg wo post  _ _ _ _ _ _ hw hP hS (lv_sub hl [2, 3, 1, 0] rfl)
    · have hw := hw.2 hc38
      refine lv_lload hx hb dX7_fit_41 (lv_at hl 0 rfl) ?_
      refine lv_lconst (v := 0) hx hb dX7_fit_43 (by decide) ?_
      refine W.lcmp hx hb dX7_fit_44 ?_
      refine lv_if_ge (tgt := 50) hx hb dX7_fit_45 (by decide) (fun hc45 => ?_) (fun hc45 => ?_)
      · have hw := hw.1 ((lg_cmp_ge _ _).mp hc45)
        exact mj_X7_fit_50 C th sz sd ss pr me ab be pi le sg wo post  _ _ _ _ _ _ hw hP hS (lv_sub hl [2, 3, 1, 0] rfl)
      · have hw := hw.2 (fun z => hc45 ((lg_cmp_ge _ _).mpr z))
        exact mj_X7_fit_48 C th sz sd ss pr me ab be pi le sg wo post   _ _ _ hw hP hS (lv_sub hl [] rfl)
-- ===== ExactFilterModel.thrown
abbrev rX7_thrown : Room := { frames := 0, cells := 0, slots := 0, locals := 0 }
def wp_X7_thrown (th : Int32)  (post : Int32 → Prop) : Prop := post th 
set_option maxHeartbeats 4000000 in
set_option maxRecDepth 100000 in
theorem m_X7_thrown (l : Launch) (D : va_G) (cI : ClassId) (q : Nat → Nat) (th : Int32) (sz : Int32) (sd : Int32) (ss : Int32) (pr : Int32) (me : Int32) (ab : Nat → Int32) (be : Nat → Int32) (pi : Nat → Int32) (le : Nat → Int32) (sg : Nat → Int32) (wo : Nat → Int32)  (post : Int32 → Prop) (hw : wp_X7_thrown th  post) : Met l yX7_thrown (wu yX7_thrown cX7_thrown 1 (some .int)) rX7_thrown (va_Pc [.ref (q 0)] (fun U => va_P D vwCl (w7 cI q th sz sd ss pr me ab be pi le sg wo) U.heap ∧ K7 D cI q U)) (va_Qi (S := Unit) (fun r u => post r ) (fun u t => va_P D vwCl (w7 cI q th sz sd ss pr me ab be pi le sg wo) t.heap) (A7 q)) 0 0 (A7 q) := by
  refine Met.ofW (cc := cX7_thrown) (maxL := 1) (ret := (some .int)) (by decide) rfl ?_
  intro p e s m args below meth c s₁ B hml hv
  obtain ⟨rfl, hP, hK, hap⟩ := hv
  have C : C7 p s m _ meth c D cI q cX7_thrown 1 (some .int) := ⟨B.exec, B.bytes, B.returns, hml, findClass_of_methodNamed B.named, x_hg (atoms_spec (ws := wu yX7_thrown cX7_thrown 1 (some .int)) B.pre), B.notSynchronized, hK, hap⟩
  obtain ⟨hx, hb, hr, hml, hown, hg, hlocks, hK, hap⟩ := id C
  have hS : va_S (A7 q) s.heap s.heap [] := va_S.rf
  have hl := lv_entry ([.ref (q 0)]) (n := 1) (Nat.le_of_ble_eq_true rfl)
  rw [lg_entry_eq]
  generalize (lg_sl ([.ref (q 0)]) ++ List.replicate (1 - (lg_sl ([.ref (q 0)])).length) Slot.unset).toArray = ls at hl ⊢
  have hl : lv_has ls 1 [(0, .ref (q 0))] := hl
  unfold wp_X7_thrown at hw
  refine lv_aload_n hx hb dX7_thrown_0 rfl (lv_at hl 0 rfl) ?_
  refine va_get (D := D) (ci := 7) (v := .int th) (C := RX7) (T := TX7) (N := 12) hx hb hg ku_X7 hown hK hP 0 rfl rfl 0 (by decide) (hg _ kf_X7_7) (fun _ h9 => h9) rfl dX7_thrown_1 ?_
  exact W.iret (v := th) hx hb hr (fun t ht hW => ⟨⟨th, (), rfl, hw, by show va_P D vwCl _ t.heap; rw [ht]; exact hP⟩, hS.F ht⟩) hS.2.2 dX7_thrown_4 hlocks
-- ===== ExactFilterModel.fresh
abbrev rX7_fresh : Room := { frames := 1, cells := 0, slots := 0, locals := 22 }
def wl_X7_fresh_7  (post : Int32 → Int32 → Int32 → Int32 → (Nat → Int32) → (Nat → Int32) → Prop) (K33 : Int32 → Int32 → Int32 → Int32 → (Nat → Int32) → (Nat → Int32) → Int32 → Prop) : Nat → Int32 → Int32 → Int32 → Int32 → (Nat → Int32) → (Nat → Int32) → Int32 → Int32 → Prop
  | 0, _, _, _, _, _, _, _, _ => False
  | n + 1, sz, sd, pr, me, ab, be, x1, x2 => (40 ≤ x2 → K33 sz sd pr me ab be x1) ∧ (¬ 40 ≤ x2 → vp_in x2 40 ∧ vp_in x2 40 ∧ ∀ (x2_27 : Int32), x2_27 = x2 + 1 → wl_X7_fresh_7  post K33 n sz sd pr me (upd ab (x2 : Int32).toNatClampNeg 0) (upd be (x2 : Int32).toNatClampNeg 1) x1 x2_27)
def wl_X7_fresh_35  (post : Int32 → Int32 → Int32 → Int32 → (Nat → Int32) → (Nat → Int32) → Prop) (K82 : Int32 → Int32 → Int32 → Int32 → (Nat → Int32) → (Nat → Int32) → Prop) : Nat → Int32 → Int32 → Int32 → Int32 → (Nat → Int32) → (Nat → Int32) → Int32 → Int32 → Prop
  | 0, _, _, _, _, _, _, _, _ => False
  | n + 1, sz, sd, pr, me, ab, be, x1, x2 => (x1 ≤ x2 → K82 sz sd pr me ab be) ∧ (¬ x1 ≤ x2 → wp_X7_at  1 x2 x2 (fun (r_47 : Int32) => vp_in r_47 40 ∧ wp_X7_at  2 x2 x2 (fun (r_59 : Int32) => vp_in r_59 40 ∧ wp_X7_at  5 x2 0 (fun (r_71 : Int32) => vp_in r_71 40 ∧ ∀ (x2_76 : Int32), x2_76 = x2 + 1 → wl_X7_fresh_35  post K82 n sz sd pr me (upd (upd (upd ab (r_47 : Int32).toNatClampNeg 1) (r_59 : Int32).toNatClampNeg 1) (r_71 : Int32).toNatClampNeg 1) be x1 x2_76))))
def wp_X7_fresh (sz : Int32) (sd : Int32) (pr : Int32) (me : Int32) (ab : Nat → Int32) (be : Nat → Int32) (x1 : Int32) (post : Int32 → Int32 → Int32 → Int32 → (Nat → Int32) → (Nat → Int32) → Prop) : Prop := ∃ n7 : Nat, wl_X7_fresh_7  post (fun (sz : Int32) (sd : Int32) (pr : Int32) (me : Int32) (ab : Nat → Int32) (be : Nat → Int32) (x1 : Int32) => ∃ n35 : Nat, wl_X7_fresh_35  post (fun (sz : Int32) (sd : Int32) (pr : Int32) (me : Int32) (ab : Nat → Int32) (be : Nat → Int32) => wp_X7_at  6 0 0 (fun (r_90 : Int32) => vp_in r_90 40 ∧ post sz 0 0 0 (upd ab (r_90 : Int32).toNatClampNeg 1) be)) n35 sz sd pr me ab be x1 0) n7 x1 sd pr me ab be x1 0
set_option maxHeartbeats 4000000 in
set_option maxRecDepth 100000 in
theorem ml_X7_fresh_7 (C : C7 p s m args meth c D cI q cX7_fresh 3 none) (th : Int32) (ss : Int32) (pi : Nat → Int32) (le : Nat → Int32) (sg : Nat → Int32) (wo : Nat → Int32) (post : Int32 → Int32 → Int32 → Int32 → (Nat → Int32) → (Nat → Int32) → Prop) (K33 : Int32 → Int32 → Int32 → Int32 → (Nat → Int32) → (Nat → Int32) → Int32 → Prop)
    (hK33 : (∀ (sz : Int32) (sd : Int32) (pr : Int32) (me : Int32) (ab : Nat → Int32) (be : Nat → Int32) (x1 : Int32) (H : Heap) (locs : List Loc) (ls : Array Slot), K33 sz sd pr me ab be x1 → va_P D vwCl (w7 cI q th sz sd ss pr me ab be pi le sg wo) H → va_S (A7 q) s.heap H locs → lv_has ls 3 [(0, .ref (q 0)), (1, .int x1)] → W p l e rX7_fresh s m args below meth c H locs 0 0 (MQ below (va_Qv (S := Int32 × Int32 × Int32 × Int32 × (Nat → Int32) × (Nat → Int32)) (fun u => post u.1 u.2.1 u.2.2.1 u.2.2.2.1 u.2.2.2.2.1 u.2.2.2.2.2) (fun u t => va_P D vwCl (w7 cI q th u.1 u.2.1 ss u.2.2.1 u.2.2.2.1 u.2.2.2.2.1 u.2.2.2.2.2 pi le sg wo) t.heap) (A7 q)) args s 0 0 (A7 q)) (F0 m 33 ls []))) :
    ∀ (n : Nat) (sz : Int32) (sd : Int32) (pr : Int32) (me : Int32) (ab : Nat → Int32) (be : Nat → Int32) (x1 : Int32) (x2 : Int32) (H : Heap) (locs : List Loc) (ls : Array Slot), wl_X7_fresh_7  post K33 n sz sd pr me ab be x1 x2 → va_P D vwCl (w7 cI q th sz sd ss pr me ab be pi le sg wo) H → va_S (A7 q) s.heap H locs → lv_has ls 3 [(0, .ref (q 0)), (1, .int x1), (2, .int x2)] → W p l e rX7_fresh s m args below meth c H locs 0 0 (MQ below (va_Qv (S := Int32 × Int32 × Int32 × Int32 × (Nat → Int32) × (Nat → Int32)) (fun u => post u.1 u.2.1 u.2.2.1 u.2.2.2.1 u.2.2.2.2.1 u.2.2.2.2.2) (fun u t => va_P D vwCl (w7 cI q th u.1 u.2.1 ss u.2.2.1 u.2.2.2.1 u.2.2.2.2.1 u.2.2.2.2.2 pi le sg wo) t.heap) (A7 q)) args s 0 0 (A7 q)) (F0 m 7 ls []) := by
  obtain ⟨hx, hb, hr, hml, hown, hg, hlocks, hK, hap⟩ := id C
  intro n
  induction n with
  | zero => intro sz sd pr me ab be x1 x2 H locs ls hw; exact absurd hw id
  | succ n ih =>
    intro sz sd pr me ab be x1 x2 H locs ls hw hP hS hl
    refine lv_iload_n hx hb dX7_fresh_7 rfl (lv_at hl 2 rfl) ?_
    refine lv_bipush (v := 40) hx hb dX7_fresh_8 (by decide) ?_
    refine lv_icmp_ge (tgt := 33) hx hb dX7_fresh_10 (by decide) (fun hc10 => ?_) (fun hc10 => ?_)
    · have hw := hw.1 hc10
      exact hK33 _ _ _ _ _ _ _ _ _ _ hw hP hS (lv_sub hl [0, 1] rfl)
    · have hw := hw.2 hc10
      refine lv_aload_n hx hb dX7_fresh_13 rfl (lv_at hl 0 rfl) ?_
      refine va_get (D := D) (ci := 7) (v := .ref (q 1)) (C := RX7) (T := TX7) (N := 12) hx hb hg ku_X7 hown hK hP 0 rfl rfl 2 (by decide) (hg _ kf_X7_16) (fun _ h9 => h9) rfl dX7_fresh_14 ?_
      refine lv_iload_n hx hb dX7_fresh_17 rfl (lv_at hl 2 rfl) ?_
      refine lv_iconst (v := 0) hx hb dX7_fresh_18 (by decide) ?_
      obtain ⟨hi19, hw⟩ := hw
      refine va_iast (D := D) hx hb hK hP (D7 hap) hS 1 0 rfl rfl hi19 dX7_fresh_19 (fun H locs hP _ hS => ?_)
      have hP : va_P D vwCl (w7 cI q th sz sd ss pr me (upd ab (x2 : Int32).toNatClampNeg 0) be pi le sg wo) H := hP
      refine lv_aload_n hx hb dX7_fresh_20 rfl (lv_at hl 0 rfl) ?_
      refine va_get (D := D) (ci := 7) (v := .ref (q 2)) (C := RX7) (T := TX7) (N := 12) hx hb hg ku_X7 hown hK hP 0 rfl rfl 3 (by decide) (hg _ kf_X7_20) (fun _ h9 => h9) rfl dX7_fresh_21 ?_
      refine lv_iload_n hx hb dX7_fresh_24 rfl (lv_at hl 2 rfl) ?_
      refine lv_iconst (v := 1) hx hb dX7_fresh_25 (by decide) ?_
      obtain ⟨hi26, hw⟩ := hw
      refine va_iast (D := D) hx hb hK hP (D7 hap) hS 2 0 rfl rfl hi26 dX7_fresh_26 (fun H locs hP _ hS => ?_)
      have hP : va_P D vwCl (w7 cI q th sz sd ss pr me (upd ab (x2 : Int32).toNatClampNeg 0) (upd be (x2 : Int32).toNatClampNeg 1) pi le sg wo) H := hP
      obtain ⟨x2_27, ex2_27⟩ : ∃ y : Int32, y = x2 + 1 := ⟨_, rfl⟩
      have hw := hw x2_27 ex2_27
      refine lv_iinc (v := x2_27) (lv' := [(2, .int x2_27), (0, .ref (q 0)), (1, .int x1)]) hx hb dX7_fresh_27 hl (k := 2) rfl (by rw [ex2_27]; rfl) (by decide) rfl (fun ls hl => ?_)
      refine lv_goto (tgt := 7) hx hb dX7_fresh_30 (by decide) ?_
      exact ih _ _ _ _ _ _ _ _ _ _ _ hw hP hS (lv_sub hl [1, 2, 0] rfl)
set_option maxHeartbeats 4000000 in
set_option maxRecDepth 100000 in
theorem ml_X7_fresh_35 (C : C7 p s m args meth c D cI q cX7_fresh 3 none) (th : Int32) (ss : Int32) (pi : Nat → Int32) (le : Nat → Int32) (sg : Nat → Int32) (wo : Nat → Int32) (post : Int32 → Int32 → Int32 → Int32 → (Nat → Int32) → (Nat → Int32) → Prop) (K82 : Int32 → Int32 → Int32 → Int32 → (Nat → Int32) → (Nat → Int32) → Prop)
    (hK82 : (∀ (sz : Int32) (sd : Int32) (pr : Int32) (me : Int32) (ab : Nat → Int32) (be : Nat → Int32) (H : Heap) (locs : List Loc) (ls : Array Slot), K82 sz sd pr me ab be → va_P D vwCl (w7 cI q th sz sd ss pr me ab be pi le sg wo) H → va_S (A7 q) s.heap H locs → lv_has ls 3 [(0, .ref (q 0))] → W p l e rX7_fresh s m args below meth c H locs 0 0 (MQ below (va_Qv (S := Int32 × Int32 × Int32 × Int32 × (Nat → Int32) × (Nat → Int32)) (fun u => post u.1 u.2.1 u.2.2.1 u.2.2.2.1 u.2.2.2.2.1 u.2.2.2.2.2) (fun u t => va_P D vwCl (w7 cI q th u.1 u.2.1 ss u.2.2.1 u.2.2.2.1 u.2.2.2.2.1 u.2.2.2.2.2 pi le sg wo) t.heap) (A7 q)) args s 0 0 (A7 q)) (F0 m 82 ls []))) :
    ∀ (n : Nat) (sz : Int32) (sd : Int32) (pr : Int32) (me : Int32) (ab : Nat → Int32) (be : Nat → Int32) (x1 : Int32) (x2 : Int32) (H : Heap) (locs : List Loc) (ls : Array Slot), wl_X7_fresh_35  post K82 n sz sd pr me ab be x1 x2 → va_P D vwCl (w7 cI q th sz sd ss pr me ab be pi le sg wo) H → va_S (A7 q) s.heap H locs → lv_has ls 3 [(0, .ref (q 0)), (1, .int x1), (2, .int x2)] → W p l e rX7_fresh s m args below meth c H locs 0 0 (MQ below (va_Qv (S := Int32 × Int32 × Int32 × Int32 × (Nat → Int32) × (Nat → Int32)) (fun u => post u.1 u.2.1 u.2.2.1 u.2.2.2.1 u.2.2.2.2.1 u.2.2.2.2.2) (fun u t => va_P D vwCl (w7 cI q th u.1 u.2.1 ss u.2.2.1 u.2.2.2.1 u.2.2.2.2.1 u.2.2.2.2.2 pi le sg wo) t.heap) (A7 q)) args s 0 0 (A7 q)) (F0 m 35 ls []) := by
  obtain ⟨hx, hb, hr, hml, hown, hg, hlocks, hK, hap⟩ := id C
  intro n
  induction n with
  | zero => intro sz sd pr me ab be x1 x2 H locs ls hw; exact absurd hw id
  | succ n ih =>
    intro sz sd pr me ab be x1 x2 H locs ls hw hP hS hl
    refine lv_iload_n hx hb dX7_fresh_35 rfl (lv_at hl 2 rfl) ?_
    refine lv_iload_n hx hb dX7_fresh_36 rfl (lv_at hl 1 rfl) ?_
    refine lv_icmp_ge (tgt := 82) hx hb dX7_fresh_37 (by decide) (fun hc37 => ?_) (fun hc37 => ?_)
    · have hw := hw.1 hc37
      exact hK82 _ _ _ _ _ _ _ _ _ hw hP hS (lv_sub hl [0] rfl)
    · have hw := hw.2 hc37
      refine lv_aload_n hx hb dX7_fresh_40 rfl (lv_at hl 0 rfl) ?_
      refine va_get (D := D) (ci := 7) (v := .ref (q 1)) (C := RX7) (T := TX7) (N := 12) hx hb hg ku_X7 hown hK hP 0 rfl rfl 2 (by decide) (hg _ kf_X7_16) (fun _ h9 => h9) rfl dX7_fresh_41 ?_
      refine lv_iconst (v := 1) hx hb dX7_fresh_44 (by decide) ?_
      refine lv_iload_n hx hb dX7_fresh_45 rfl (lv_at hl 2 rfl) ?_
      refine lv_iload_n hx hb dX7_fresh_46 rfl (lv_at hl 2 rfl) ?_
      refine va_calli (va_runS (As := [.int 1, .int x2, .int x2]) (rest := [.ref (q 1)]) ⟨hx, hb, hml, hown, hg⟩ (m_X7_at l 1 x2 x2 _ hw) (va_cwS 3 hg (x_gS km_X7_53 ks_X7_at kn_X7 kk_X7_at) rfl rfl rfl (by decide +kernel) ⟨Nat.le_of_ble_eq_true rfl, Nat.le_of_ble_eq_true rfl⟩) pre7S rfl rfl hl.1 rfl (lv_room (Nat.le_of_ble_eq_true rfl)) dX7_fresh_47 ⟨Nat.zero_le _, Nat.zero_le _⟩) hS (fun _ _ h => h.elim) (fun _ h => h.elim) (fun r_47 u t H1 locs1 ht hvm hw hB hz1 hk1 hS => ?_)
      have hP := hP.kept (fun k9 q9 h9 => hk1 q9.1 ((hP k9 q9 h9).lt) (fun z => z.elim))
      clear hB; generalize H1 = H at hP hS ⊢; generalize locs1 = locs at hS ⊢; try dsimp only at hw
      refine lv_iconst (v := 1) hx hb dX7_fresh_50 (by decide) ?_
      obtain ⟨hi51, hw⟩ := hw
      refine va_iast (D := D) hx hb hK hP (D7 hap) hS 1 0 rfl rfl hi51 dX7_fresh_51 (fun H locs hP _ hS => ?_)
      have hP : va_P D vwCl (w7 cI q th sz sd ss pr me (upd ab (r_47 : Int32).toNatClampNeg 1) be pi le sg wo) H := hP
      refine lv_aload_n hx hb dX7_fresh_52 rfl (lv_at hl 0 rfl) ?_
      refine va_get (D := D) (ci := 7) (v := .ref (q 1)) (C := RX7) (T := TX7) (N := 12) hx hb hg ku_X7 hown hK hP 0 rfl rfl 2 (by decide) (hg _ kf_X7_16) (fun _ h9 => h9) rfl dX7_fresh_53 ?_
      refine lv_iconst (v := 2) hx hb dX7_fresh_56 (by decide) ?_
      refine lv_iload_n hx hb dX7_fresh_57 rfl (lv_at hl 2 rfl) ?_
      refine lv_iload_n hx hb dX7_fresh_58 rfl (lv_at hl 2 rfl) ?_
      refine va_calli (va_runS (As := [.int 2, .int x2, .int x2]) (rest := [.ref (q 1)]) ⟨hx, hb, hml, hown, hg⟩ (m_X7_at l 2 x2 x2 _ hw) (va_cwS 3 hg (x_gS km_X7_53 ks_X7_at kn_X7 kk_X7_at) rfl rfl rfl (by decide +kernel) ⟨Nat.le_of_ble_eq_true rfl, Nat.le_of_ble_eq_true rfl⟩) pre7S rfl rfl hl.1 rfl (lv_room (Nat.le_of_ble_eq_true rfl)) dX7_fresh_59 ⟨Nat.zero_le _, Nat.zero_le _⟩) hS (fun _ _ h => h.elim) (fun _ h => h.elim) (fun r_59 u t H1 locs1 ht hvm hw hB hz1 hk1 hS => ?_)
      have hP := hP.kept (fun k9 q9 h9 => hk1 q9.1 ((hP k9 q9 h9).lt) (fun z => z.elim))
      clear hB; generalize H1 = H at hP hS ⊢; generalize locs1 = locs at hS ⊢; try dsimp only at hw
      refine lv_iconst (v := 1) hx hb dX7_fresh_62 (by decide) ?_
      obtain ⟨hi63, hw⟩ := hw
      refine va_iast (D := D) hx hb hK hP (D7 hap) hS 1 0 rfl rfl hi63 dX7_fresh_63 (fun H locs hP _ hS => ?_)
      have hP : va_P D vwCl (w7 cI q th sz sd ss pr me (upd (upd ab (r_47 : Int32).toNatClampNeg 1) (r_59 : Int32).toNatClampNeg 1) be pi le sg wo) H := hP
      refine lv_aload_n hx hb dX7_fresh_64 rfl (lv_at hl 0 rfl) ?_
      refine va_get (D := D) (ci := 7) (v := .ref (q 1)) (C := RX7) (T := TX7) (N := 12) hx hb hg ku_X7 hown hK hP 0 rfl rfl 2 (by decide) (hg _ kf_X7_16) (fun _ h9 => h9) rfl dX7_fresh_65 ?_
      refine lv_iconst (v := 5) hx hb dX7_fresh_68 (by decide) ?_
      refine lv_iload_n hx hb dX7_fresh_69 rfl (lv_at hl 2 rfl) ?_
      refine lv_iconst (v := 0) hx hb dX7_fresh_70 (by decide) ?_
      refine va_calli (va_runS (As := [.int 5, .int x2, .int 0]) (rest := [.ref (q 1)]) ⟨hx, hb, hml, hown, hg⟩ (m_X7_at l 5 x2 0 _ hw) (va_cwS 3 hg (x_gS km_X7_53 ks_X7_at kn_X7 kk_X7_at) rfl rfl rfl (by decide +kernel) ⟨Nat.le_of_ble_eq_true rfl, Nat.le_of_ble_eq_true rfl⟩) pre7S rfl rfl hl.1 rfl (lv_room (Nat.le_of_ble_eq_true rfl)) dX7_fresh_71 ⟨Nat.zero_le _, Nat.zero_le _⟩) hS (fun _ _ h => h.elim) (fun _ h => h.elim) (fun r_71 u t H1 locs1 ht hvm hw hB hz1 hk1 hS => ?_)
      have hP := hP.kept (fun k9 q9 h9 => hk1 q9.1 ((hP k9 q9 h9).lt) (fun z => z.elim))
      clear hB; generalize H1 = H at hP hS ⊢; generalize locs1 = locs at hS ⊢; try dsimp only at hw
      refine lv_iconst (v := 1) hx hb dX7_fresh_74 (by decide) ?_
      obtain ⟨hi75, hw⟩ := hw
      refine va_iast (D := D) hx hb hK hP (D7 hap) hS 1 0 rfl rfl hi75 dX7_fresh_75 (fun H locs hP _ hS => ?_)
      have hP : va_P D vwCl (w7 cI q th sz sd ss pr me (upd (upd (upd ab (r_47 : Int32).toNatClampNeg 1) (r_59 : Int32).toNatClampNeg 1) (r_71 : Int32).toNatClampNeg 1) be pi le sg wo) H := hP
      obtain ⟨x2_76, ex2_76⟩ : ∃ y : Int32, y = x2 + 1 := ⟨_, rfl⟩
      have hw := hw x2_76 ex2_76
      refine lv_iinc (v := x2_76) (lv' := [(2, .int x2_76), (0, .ref (q 0)), (1, .int x1)]) hx hb dX7_fresh_76 hl (k := 2) rfl (by rw [ex2_76]; rfl) (by decide) rfl (fun ls hl => ?_)
      refine lv_goto (tgt := 35) hx hb dX7_fresh_79 (by decide) ?_
      exact ih _ _ _ _ _ _ _ _ _ _ _ hw hP hS (lv_sub hl [1, 2, 0] rfl)
set_option maxHeartbeats 4000000 in
set_option maxRecDepth 100000 in
theorem m_X7_fresh (l : Launch) (D : va_G) (cI : ClassId) (q : Nat → Nat) (th : Int32) (sz : Int32) (sd : Int32) (ss : Int32) (pr : Int32) (me : Int32) (ab : Nat → Int32) (be : Nat → Int32) (pi : Nat → Int32) (le : Nat → Int32) (sg : Nat → Int32) (wo : Nat → Int32) (x1 : Int32) (post : Int32 → Int32 → Int32 → Int32 → (Nat → Int32) → (Nat → Int32) → Prop) (hw : wp_X7_fresh sz sd pr me ab be x1 post) : Met l yX7_fresh (wu yX7_fresh cX7_fresh 3 none) rX7_fresh (va_Pc [.ref (q 0), .int x1] (fun U => va_P D vwCl (w7 cI q th sz sd ss pr me ab be pi le sg wo) U.heap ∧ K7 D cI q U)) (va_Qv (S := Int32 × Int32 × Int32 × Int32 × (Nat → Int32) × (Nat → Int32)) (fun u => post u.1 u.2.1 u.2.2.1 u.2.2.2.1 u.2.2.2.2.1 u.2.2.2.2.2) (fun u t => va_P D vwCl (w7 cI q th u.1 u.2.1 ss u.2.2.1 u.2.2.2.1 u.2.2.2.2.1 u.2.2.2.2.2 pi le sg wo) t.heap) (A7 q)) 0 0 (A7 q) := by
  refine Met.ofW (cc := cX7_fresh) (maxL := 3) (ret := none) (by decide) rfl ?_
  intro p e s m args below meth c s₁ B hml hv
  obtain ⟨rfl, hP, hK, hap⟩ := hv
  have C : C7 p s m _ meth c D cI q cX7_fresh 3 none := ⟨B.exec, B.bytes, B.returns, hml, findClass_of_methodNamed B.named, x_hg (atoms_spec (ws := wu yX7_fresh cX7_fresh 3 none) B.pre), B.notSynchronized, hK, hap⟩
  obtain ⟨hx, hb, hr, hml, hown, hg, hlocks, hK, hap⟩ := id C
  have hS : va_S (A7 q) s.heap s.heap [] := va_S.rf
  have hl := lv_entry ([.ref (q 0), .int x1]) (n := 3) (Nat.le_of_ble_eq_true rfl)
  rw [lg_entry_eq]
  generalize (lg_sl ([.ref (q 0), .int x1]) ++ List.replicate (3 - (lg_sl ([.ref (q 0), .int x1])).length) Slot.unset).toArray = ls at hl ⊢
  have hl : lv_has ls 3 [(0, .ref (q 0)), (1, .int x1)] := hl
  unfold wp_X7_fresh at hw
  refine lv_aload_n hx hb dX7_fresh_0 rfl (lv_at hl 0 rfl) ?_
  refine lv_iload_n hx hb dX7_fresh_1 rfl (lv_at hl 1 rfl) ?_
  refine va_put (D := D) (ci := 7) (v := .int x1) (ty := .int) (C := RX7) (T := TX7) (N := 12) hx hb hg ku_X7 tyX7 tyX7_ok nmX7 hown hK hP (D7 hap) hS 0 rfl rfl 1 (by decide) (hg _ kf_X7_13) (fun _ h9 => h9) rfl (by decide +kernel) rfl rfl (Nat.le_of_ble_eq_true rfl) dX7_fresh_2 (fun H locs hP _ hS => ?_)
  have hP : va_P D vwCl (w7 cI q th x1 sd ss pr me ab be pi le sg wo) H := hP
  refine lv_iconst (v := 0) hx hb dX7_fresh_5 (by decide) ?_
  refine lv_istore_n (lv' := [(2, .int 0), (0, .ref (q 0)), (1, .int x1)]) hx hb dX7_fresh_6 rfl hl (by decide) rfl (fun ls hl => ?_)
  obtain ⟨n7, hw⟩ := hw
  refine ml_X7_fresh_7 C th ss pi le sg wo post _ ?_ n7 _ _ _ _ _ _ _ _ _ _ _ hw hP hS (lv_sub hl [1, 2, 0] rfl)
  · intro sz sd pr me ab be x1 H locs ls hw hP hS hl
    refine lv_iconst (v := 0) hx hb dX7_fresh_33 (by decide) ?_
    refine lv_istore_n (lv' := [(2, .int 0), (0, .ref (q 0)), (1, .int x1)]) hx hb dX7_fresh_34 rfl hl (by decide) rfl (fun ls hl => ?_)
    obtain ⟨n35, hw⟩ := hw
    refine ml_X7_fresh_35 C th ss pi le sg wo post _ ?_ n35 _ _ _ _ _ _ _ _ _ _ _ hw hP hS (lv_sub hl [1, 2, 0] rfl)
    · intro sz sd pr me ab be H locs ls hw hP hS hl
      refine lv_aload_n hx hb dX7_fresh_82 rfl (lv_at hl 0 rfl) ?_
      refine va_get (D := D) (ci := 7) (v := .ref (q 1)) (C := RX7) (T := TX7) (N := 12) hx hb hg ku_X7 hown hK hP 0 rfl rfl 2 (by decide) (hg _ kf_X7_16) (fun _ h9 => h9) rfl dX7_fresh_83 ?_
      refine lv_bipush (v := 6) hx hb dX7_fresh_86 (by decide) ?_
      refine lv_iconst (v := 0) hx hb dX7_fresh_88 (by decide) ?_
      refine lv_iconst (v := 0) hx hb dX7_fresh_89 (by decide) ?_
      refine va_calli (va_runS (As := [.int 6, .int 0, .int 0]) (rest := [.ref (q 1)]) ⟨hx, hb, hml, hown, hg⟩ (m_X7_at l 6 0 0 _ hw) (va_cwS 3 hg (x_gS km_X7_53 ks_X7_at kn_X7 kk_X7_at) rfl rfl rfl (by decide +kernel) ⟨Nat.le_of_ble_eq_true rfl, Nat.le_of_ble_eq_true rfl⟩) pre7S rfl rfl hl.1 rfl (lv_room (Nat.le_of_ble_eq_true rfl)) dX7_fresh_90 ⟨Nat.zero_le _, Nat.zero_le _⟩) hS (fun _ _ h => h.elim) (fun _ h => h.elim) (fun r_90 u t H1 locs1 ht hvm hw hB hz1 hk1 hS => ?_)
      have hP := hP.kept (fun k9 q9 h9 => hk1 q9.1 ((hP k9 q9 h9).lt) (fun z => z.elim))
      clear hB; generalize H1 = H at hP hS ⊢; generalize locs1 = locs at hS ⊢; try dsimp only at hw
      refine lv_iconst (v := 1) hx hb dX7_fresh_93 (by decide) ?_
      obtain ⟨hi94, hw⟩ := hw
      refine va_iast (D := D) hx hb hK hP (D7 hap) hS 1 0 rfl rfl hi94 dX7_fresh_94 (fun H locs hP _ hS => ?_)
      have hP : va_P D vwCl (w7 cI q th sz sd ss pr me (upd ab (r_90 : Int32).toNatClampNeg 1) be pi le sg wo) H := hP
      refine lv_aload_n hx hb dX7_fresh_95 rfl (lv_at hl 0 rfl) ?_
      refine lv_iconst (v := 0) hx hb dX7_fresh_96 (by decide) ?_
      refine va_put (D := D) (ci := 7) (v := .int 0) (ty := .boolean) (C := RX7) (T := TX7) (N := 12) hx hb hg ku_X7 tyX7 tyX7_ok nmX7 hown hK hP (D7 hap) hS 0 rfl rfl 4 (by decide) (hg _ kf_X7_23) (fun _ h9 => h9) rfl (by decide +kernel) rfl rfl (Nat.le_of_ble_eq_true rfl) dX7_fresh_97 (fun H locs hP _ hS => ?_)
      have hP : va_P D vwCl (w7 cI q th sz 0 ss pr me (upd ab (r_90 : Int32).toNatClampNeg 1) be pi le sg wo) H := hP
      refine lv_aload_n hx hb dX7_fresh_100 rfl (lv_at hl 0 rfl) ?_
      refine lv_iconst (v := 0) hx hb dX7_fresh_101 (by decide) ?_
      refine va_put (D := D) (ci := 7) (v := .int 0) (ty := .int) (C := RX7) (T := TX7) (N := 12) hx hb hg ku_X7 tyX7 tyX7_ok nmX7 hown hK hP (D7 hap) hS 0 rfl rfl 6 (by decide) (hg _ kf_X7_30) (fun _ h9 => h9) rfl (by decide +kernel) rfl rfl (Nat.le_of_ble_eq_true rfl) dX7_fresh_102 (fun H locs hP _ hS => ?_)
      have hP : va_P D vwCl (w7 cI q th sz 0 ss 0 me (upd ab (r_90 : Int32).toNatClampNeg 1) be pi le sg wo) H := hP
      refine lv_aload_n hx hb dX7_fresh_105 rfl (lv_at hl 0 rfl) ?_
      refine lv_iconst (v := 0) hx hb dX7_fresh_106 (by decide) ?_
      refine va_put (D := D) (ci := 7) (v := .int 0) (ty := .int) (C := RX7) (T := TX7) (N := 12) hx hb hg ku_X7 tyX7 tyX7_ok nmX7 hown hK hP (D7 hap) hS 0 rfl rfl 7 (by decide) (hg _ kf_X7_33) (fun _ h9 => h9) rfl (by decide +kernel) rfl rfl (Nat.le_of_ble_eq_true rfl) dX7_fresh_107 (fun H locs hP _ hS => ?_)
      have hP : va_P D vwCl (w7 cI q th sz 0 ss 0 0 (upd ab (r_90 : Int32).toNatClampNeg 1) be pi le sg wo) H := hP
      exact W.vret hx hb hr (fun t ht hW => ⟨⟨(sz, 0, 0, 0, (upd ab (r_90 : Int32).toNatClampNeg 1), be), rfl, hw, by show va_P D vwCl _ t.heap; rw [ht]; exact hP⟩, hS.F ht⟩) hS.2.2 dX7_fresh_110 hlocks
-- ===== ExactFilterModel.begin
abbrev rX7_begin : Room := { frames := 2, cells := 0, slots := 0, locals := 44 }
def wj_X7_begin_31  (post : Int32 → Int32 → Int32 → Int32 → Int32 → (Nat → Int32) → (Nat → Int32) → Prop)  (th : Int32) (sz : Int32) (sd : Int32) (pr : Int32) (me : Int32) (ab : Nat → Int32) (be : Nat → Int32) : Prop := post th sz sd pr me ab be
def wj_X7_begin_16  (post : Int32 → Int32 → Int32 → Int32 → Int32 → (Nat → Int32) → (Nat → Int32) → Prop)  (th : Int32) (sz : Int32) (sd : Int32) (pr : Int32) (me : Int32) (ab : Nat → Int32) (be : Nat → Int32) (x1 : Int32) (s1 : Int32) : Prop := (¬ s1 = 0 → wj_X7_begin_31  post  s1 sz sd pr me ab be) ∧ (s1 = 0 → wp_X7_fresh sz sd pr me ab be x1 (fun (sz_28 : Int32) (sd_28 : Int32) (pr_28 : Int32) (me_28 : Int32) (ab_28 : Nat → Int32) (be_28 : Nat → Int32) => wj_X7_begin_31  post  s1 sz_28 sd_28 pr_28 me_28 ab_28 be_28))
def wj_X7_begin_11  (post : Int32 → Int32 → Int32 → Int32 → Int32 → (Nat → Int32) → (Nat → Int32) → Prop)  (th : Int32) (sz : Int32) (sd : Int32) (pr : Int32) (me : Int32) (ab : Nat → Int32) (be : Nat → Int32) (x1 : Int32) : Prop := wj_X7_begin_16  post  th sz sd pr me ab be x1 1
def wp_X7_begin (th : Int32) (sz : Int32) (sd : Int32) (pr : Int32) (me : Int32) (ab : Nat → Int32) (be : Nat → Int32) (x1 : Int32) (post : Int32 → Int32 → Int32 → Int32 → Int32 → (Nat → Int32) → (Nat → Int32) → Prop) : Prop := (x1 < 1 → wj_X7_begin_11  post  th sz sd pr me ab be x1) ∧ (¬ x1 < 1 → (x1 ≤ 2 → wj_X7_begin_16  post  th sz sd pr me ab be x1 0) ∧ (¬ x1 ≤ 2 → wj_X7_begin_11  post  th sz sd pr me ab be x1))
set_option maxHeartbeats 4000000 in
set_option maxRecDepth 100000 in
theorem mj_X7_begin_31 (C : C7 p s m args meth c D cI q cX7_begin 2 none) (ss : Int32) (pi : Nat → Int32) (le : Nat → Int32) (sg : Nat → Int32) (wo : Nat → Int32) (post : Int32 → Int32 → Int32 → Int32 → Int32 → (Nat → Int32) → (Nat → Int32) → Prop) 
    
    (th : Int32) (sz : Int32) (sd : Int32) (pr : Int32) (me : Int32) (ab : Nat → Int32) (be : Nat → Int32) (H : Heap) (locs : List Loc) (ls : Array Slot) (hw : wj_X7_begin_31  post  th sz sd pr me ab be) (hP : va_P D vwCl (w7 cI q th sz sd ss pr me ab be pi le sg wo) H) (hS : va_S (A7 q) s.heap H locs) (hl : lv_has ls 2 []) : W p l e rX7_begin s m args below meth c H locs 0 0 (MQ below (va_Qv (S := Int32 × Int32 × Int32 × Int32 × Int32 × (Nat → Int32) × (Nat → Int32)) (fun u => post u.1 u.2.1 u.2.2.1 u.2.2.2.1 u.2.2.2.2.1 u.2.2.2.2.2.1 u.2.2.2.2.2.2) (fun u t => va_P D vwCl (w7 cI q u.1 u.2.1 u.2.2.1 ss u.2.2.2.1 u.2.2.2.2.1 u.2.2.2.2.2.1 u.2.2.2.2.2.2 pi le sg wo) t.heap) (A7 q)) args s 0 0 (A7 q)) (F0 m 31 ls []) := by
  obtain ⟨hx, hb, hr, hml, hown, hg, hlocks, hK, hap⟩ := id C
  unfold wj_X7_begin_31 at hw
  exact W.vret hx hb hr (fun t ht hW => ⟨⟨(th, sz, sd, pr, me, ab, be), rfl, hw, by show va_P D vwCl _ t.heap; rw [ht]; exact hP⟩, hS.F ht⟩) hS.2.2 dX7_begin_31 hlocks
set_option maxHeartbeats 4000000 in
set_option maxRecDepth 100000 in
theorem mj_X7_begin_16 (C : C7 p s m args meth c D cI q cX7_begin 2 none) (ss : Int32) (pi : Nat → Int32) (le : Nat → Int32) (sg : Nat → Int32) (wo : Nat → Int32) (post : Int32 → Int32 → Int32 → Int32 → Int32 → (Nat → Int32) → (Nat → Int32) → Prop) 
    
    (th : Int32) (sz : Int32) (sd : Int32) (pr : Int32) (me : Int32) (ab : Nat → Int32) (be : Nat → Int32) (x1 : Int32) (s1 : Int32) (H : Heap) (locs : List Loc) (ls : Array Slot) (hw : wj_X7_begin_16  post  th sz sd pr me ab be x1 s1) (hP : va_P D vwCl (w7 cI q th sz sd ss pr me ab be pi le sg wo) H) (hS : va_S (A7 q) s.heap H locs) (hl : lv_has ls 2 [(0, .ref (q 0)), (1, .int x1)]) : W p l e rX7_begin s m args below meth c H locs 0 0 (MQ below (va_Qv (S := Int32 × Int32 × Int32 × Int32 × Int32 × (Nat → Int32) × (Nat → Int32)) (fun u => post u.1 u.2.1 u.2.2.1 u.2.2.2.1 u.2.2.2.2.1 u.2.2.2.2.2.1 u.2.2.2.2.2.2) (fun u t => va_P D vwCl (w7 cI q u.1 u.2.1 u.2.2.1 ss u.2.2.2.1 u.2.2.2.2.1 u.2.2.2.2.2.1 u.2.2.2.2.2.2 pi le sg wo) t.heap) (A7 q)) args s 0 0 (A7 q)) (F0 m 16 ls [.int s1, .ref (q 0)]) := by
  obtain ⟨hx, hb, hr, hml, hown, hg, hlocks, hK, hap⟩ := id C
  unfold wj_X7_begin_16 at hw
  refine va_put (D := D) (ci := 7) (v := .int s1) (ty := .int) (C := RX7) (T := TX7) (N := 12) hx hb hg ku_X7 tyX7 tyX7_ok nmX7 hown hK hP (D7 hap) hS 0 rfl rfl 0 (by decide) (hg _ kf_X7_7) (fun _ h9 => h9) rfl (by decide +kernel) rfl rfl (Nat.le_of_ble_eq_true rfl) dX7_begin_16 (fun H locs hP _ hS => ?_)
  have hP : va_P D vwCl (w7 cI q s1 sz sd ss pr me ab be pi le sg wo) H := hP
  refine lv_aload_n hx hb dX7_begin_19 rfl (lv_at hl 0 rfl) ?_
  refine va_get (D := D) (ci := 7) (v := .int s1) (C := RX7) (T := TX7) (N := 12) hx hb hg ku_X7 hown hK hP 0 rfl rfl 0 (by decide) (hg _ kf_X7_7) (fun _ h9 => h9) rfl dX7_begin_20 ?_
  refine lv_if_ne (tgt := 31) hx hb dX7_begin_23 (by decide) (fun hc23 => ?_) (fun hc23 => ?_)
  · have hw := hw.1 hc23
    exact mj_X7_begin_31 C ss pi le sg wo post  _ _ _ _ _ _ _ _ _ _ hw hP hS (lv_sub hl [] rfl)
  · have hw := hw.2 hc23
    refine lv_aload_n hx hb dX7_begin_26 rfl (lv_at hl 0 rfl) ?_
    refine lv_iload_n hx hb dX7_begin_27 rfl (lv_at hl 1 rfl) ?_
    refine va_callv (va_runV (As := [.int x1]) (rest := []) ⟨hx, hb, hml, hown, hg⟩ (m_X7_fresh l D cI q s1 sz sd ss pr me ab be pi le sg wo x1 _ hw) (cwV 1 hg (x_gV km_X7_49 ki_X7_fresh kz_X7_X7_fresh kn_X7 kk_X7_fresh) rfl rfl rfl (by decide +kernel) ⟨Nat.le_of_ble_eq_true rfl, Nat.le_of_ble_eq_true rfl⟩) (pre7V hP hK hap [.int x1]) rfl rfl hl.1 rfl (lv_room (Nat.le_of_ble_eq_true rfl)) dX7_begin_28 ⟨Nat.zero_le _, Nat.zero_le _⟩) hS (fun _ _ h => h) (fun _ h => h) (fun  u t H locs ht hvm hw hP hz1 hk1 hS => ?_)
    obtain ⟨sz_28, sd_28, pr_28, me_28, ab_28, be_28⟩ := u
    rw [ht] at hP; clear hz1 hk1 ht hvm
    try dsimp only at hw
    try dsimp only at hP
    exact mj_X7_begin_31 C ss pi le sg wo post  _ _ _ _ _ _ _ _ _ _ hw hP hS (lv_sub hl [] rfl)
set_option maxHeartbeats 4000000 in
set_option maxRecDepth 100000 in
theorem mj_X7_begin_11 (C : C7 p s m args meth c D cI q cX7_begin 2 none) (ss : Int32) (pi : Nat → Int32) (le : Nat → Int32) (sg : Nat → Int32) (wo : Nat → Int32) (post : Int32 → Int32 → Int32 → Int32 → Int32 → (Nat → Int32) → (Nat → Int32) → Prop) 
    
    (th : Int32) (sz : Int32) (sd : Int32) (pr : Int32) (me : Int32) (ab : Nat → Int32) (be : Nat → Int32) (x1 : Int32) (H : Heap) (locs : List Loc) (ls : Array Slot) (hw : wj_X7_begin_11  post  th sz sd pr me ab be x1) (hP : va_P D vwCl (w7 cI q th sz sd ss pr me ab be pi le sg wo) H) (hS : va_S (A7 q) s.heap H locs) (hl : lv_has ls 2 [(0, .ref (q 0)), (1, .int x1)]) : W p l e rX7_begin s m args below meth c H locs 0 0 (MQ below (va_Qv (S := Int32 × Int32 × Int32 × Int32 × Int32 × (Nat → Int32) × (Nat → Int32)) (fun u => post u.1 u.2.1 u.2.2.1 u.2.2.2.1 u.2.2.2.2.1 u.2.2.2.2.2.1 u.2.2.2.2.2.2) (fun u t => va_P D vwCl (w7 cI q u.1 u.2.1 u.2.2.1 ss u.2.2.2.1 u.2.2.2.2.1 u.2.2.2.2.2.1 u.2.2.2.2.2.2 pi le sg wo) t.heap) (A7 q)) args s 0 0 (A7 q)) (F0 m 11 ls [.ref (q 0)]) := by
  obtain ⟨hx, hb, hr, hml, hown, hg, hlocks, hK, hap⟩ := id C
  unfold wj_X7_begin_11 at hw
  refine lv_iconst (v := 1) hx hb dX7_begin_11 (by decide) ?_
  refine lv_goto (tgt := 16) hx hb dX7_begin_12 (by decide) ?_
  exact mj_X7_begin_16 C ss pi le sg wo post  _ _ _ _ _ _ _ _ _ _ _ _ hw hP hS (lv_sub hl [0, 1] rfl)
set_option maxHeartbeats 4000000 in
set_option maxRecDepth 100000 in
theorem m_X7_begin (l : Launch) (D : va_G) (cI : ClassId) (q : Nat → Nat) (th : Int32) (sz : Int32) (sd : Int32) (ss : Int32) (pr : Int32) (me : Int32) (ab : Nat → Int32) (be : Nat → Int32) (pi : Nat → Int32) (le : Nat → Int32) (sg : Nat → Int32) (wo : Nat → Int32) (x1 : Int32) (post : Int32 → Int32 → Int32 → Int32 → Int32 → (Nat → Int32) → (Nat → Int32) → Prop) (hw : wp_X7_begin th sz sd pr me ab be x1 post) : Met l yX7_begin (wu yX7_begin cX7_begin 2 none) rX7_begin (va_Pc [.ref (q 0), .int x1] (fun U => va_P D vwCl (w7 cI q th sz sd ss pr me ab be pi le sg wo) U.heap ∧ K7 D cI q U)) (va_Qv (S := Int32 × Int32 × Int32 × Int32 × Int32 × (Nat → Int32) × (Nat → Int32)) (fun u => post u.1 u.2.1 u.2.2.1 u.2.2.2.1 u.2.2.2.2.1 u.2.2.2.2.2.1 u.2.2.2.2.2.2) (fun u t => va_P D vwCl (w7 cI q u.1 u.2.1 u.2.2.1 ss u.2.2.2.1 u.2.2.2.2.1 u.2.2.2.2.2.1 u.2.2.2.2.2.2 pi le sg wo) t.heap) (A7 q)) 0 0 (A7 q) := by
  refine Met.ofW (cc := cX7_begin) (maxL := 2) (ret := none) (by decide) rfl ?_
  intro p e s m args below meth c s₁ B hml hv
  obtain ⟨rfl, hP, hK, hap⟩ := hv
  have C : C7 p s m _ meth c D cI q cX7_begin 2 none := ⟨B.exec, B.bytes, B.returns, hml, findClass_of_methodNamed B.named, x_hg (atoms_spec (ws := wu yX7_begin cX7_begin 2 none) B.pre), B.notSynchronized, hK, hap⟩
  obtain ⟨hx, hb, hr, hml, hown, hg, hlocks, hK, hap⟩ := id C
  have hS : va_S (A7 q) s.heap s.heap [] := va_S.rf
  have hl := lv_entry ([.ref (q 0), .int x1]) (n := 2) (Nat.le_of_ble_eq_true rfl)
  rw [lg_entry_eq]
  generalize (lg_sl ([.ref (q 0), .int x1]) ++ List.replicate (2 - (lg_sl ([.ref (q 0), .int x1])).length) Slot.unset).toArray = ls at hl ⊢
  have hl : lv_has ls 2 [(0, .ref (q 0)), (1, .int x1)] := hl
  unfold wp_X7_begin at hw
  refine lv_aload_n hx hb dX7_begin_0 rfl (lv_at hl 0 rfl) ?_
  refine lv_iload_n hx hb dX7_begin_1 rfl (lv_at hl 1 rfl) ?_
  refine lv_iconst (v := 1) hx hb dX7_begin_2 (by decide) ?_
  refine lv_icmp_lt (tgt := 11) hx hb dX7_begin_3 (by decide) (fun hc3 => ?_) (fun hc3 => ?_)
  · have hw := hw.1 hc3
    exact mj_X7_begin_11 C ss pi le sg wo post  _ _ _ _ _ _ _ _ _ _ _ hw hP hS (lv_sub hl [0, 1] rfl)
  · have hw := hw.2 hc3
    refine lv_iload_n hx hb dX7_begin_6 rfl (lv_at hl 1 rfl) ?_
    refine lv_iconst (v := 2) hx hb dX7_begin_7 (by decide) ?_
    refine lv_icmp_le (tgt := 15) hx hb dX7_begin_8 (by decide) (fun hc8 => ?_) (fun hc8 => ?_)
    · have hw := hw.1 hc8
      refine lv_iconst (v := 0) hx hb dX7_begin_15 (by decide) ?_
      exact mj_X7_begin_16 C ss pi le sg wo post  _ _ _ _ _ _ _ _ _ _ _ _ hw hP hS (lv_sub hl [0, 1] rfl)
    · have hw := hw.2 hc8
      exact mj_X7_begin_11 C ss pi le sg wo post  _ _ _ _ _ _ _ _ _ _ _ hw hP hS (lv_sub hl [0, 1] rfl)
-- ===== ExactFilterModel.noFraction
abbrev rX7_noFraction : Room := { frames := 0, cells := 0, slots := 0, locals := 0 }
def wp_X7_noFraction  (x0 : Int32) (x1 : Int32) (post : Int32 → Prop) : Prop := (x0 < (-20) → post 1 ) ∧ (¬ x0 < (-20) → (20 < x0 → post 1 ) ∧ (¬ 20 < x0 → (x1 < 1 → post 1 ) ∧ (¬ x1 < 1 → (x1 ≤ 20 → post 0 ) ∧ (¬ x1 ≤ 20 → post 1 ))))
set_option maxHeartbeats 4000000 in
set_option maxRecDepth 100000 in
theorem m_X7_noFraction (l : Launch) (x0 : Int32) (x1 : Int32) (post : Int32 → Prop) (hw : wp_X7_noFraction  x0 x1 post) : Met l yX7_noFraction (wu yX7_noFraction cX7_noFraction 2 (some .boolean)) rX7_noFraction (va_Pc [.int x0, .int x1] (fun _ => True)) (va_Qi (S := Unit) (fun r _ => post r) (fun _ _ => True) (fun _ => False)) 0 0 (fun _ => False) := by
  refine Met.ofW (cc := cX7_noFraction) (maxL := 2) (ret := (some .boolean)) (by decide) rfl ?_
  intro p e s m args below meth c s₁ B hml hv
  obtain ⟨rfl, -⟩ := hv
  have hx := B.exec
  have hb := B.bytes
  have hr := B.returns
  have hlocks := B.notSynchronized
  have hS : va_S (fun _ => False) s.heap s.heap [] := va_S.rf
  have hP : True := trivial
  have hl := lv_entry ([.int x0, .int x1]) (n := 2) (Nat.le_of_ble_eq_true rfl)
  rw [lg_entry_eq]
  generalize (lg_sl ([.int x0, .int x1]) ++ List.replicate (2 - (lg_sl ([.int x0, .int x1])).length) Slot.unset).toArray = ls at hl ⊢
  have hl : lv_has ls 2 [(0, .int x0), (1, .int x1)] := hl
  unfold wp_X7_noFraction at hw
  refine lv_iload_n hx hb dX7_noFraction_0 rfl (lv_at hl 0 rfl) ?_
  refine lv_bipush (v := (-20)) hx hb dX7_noFraction_1 (by decide) ?_
  refine lv_icmp_lt (tgt := 23) hx hb dX7_noFraction_3 (by decide) (fun hc3 => ?_) (fun hc3 => ?_)
  · have hw := hw.1 hc3
    refine lv_iconst (v := 1) hx hb dX7_noFraction_23 (by decide) ?_
    refine lv_goto (tgt := 28) hx hb dX7_noFraction_24 (by decide) ?_
    exact W.zret (v := 1) hx hb hr rfl (fun t ht hW => ⟨⟨1, (), rfl, hw, trivial⟩, hS.F ht⟩) hS.2.2 dX7_noFraction_28 hlocks
  · have hw := hw.2 hc3
    refine lv_iload_n hx hb dX7_noFraction_6 rfl (lv_at hl 0 rfl) ?_
    refine lv_bipush (v := 20) hx hb dX7_noFraction_7 (by decide) ?_
    refine lv_icmp_gt (tgt := 23) hx hb dX7_noFraction_9 (by decide) (fun hc9 => ?_) (fun hc9 => ?_)
    · have hw := hw.1 hc9
      refine lv_iconst (v := 1) hx hb dX7_noFraction_23 (by decide) ?_
      refine lv_goto (tgt := 28) hx hb dX7_noFraction_24 (by decide) ?_
      exact W.zret (v := 1) hx hb hr rfl (fun t ht hW => ⟨⟨1, (), rfl, hw, trivial⟩, hS.F ht⟩) hS.2.2 dX7_noFraction_28 hlocks
    · have hw := hw.2 hc9
      refine lv_iload_n hx hb dX7_noFraction_12 rfl (lv_at hl 1 rfl) ?_
      refine lv_iconst (v := 1) hx hb dX7_noFraction_13 (by decide) ?_
      refine lv_icmp_lt (tgt := 23) hx hb dX7_noFraction_14 (by decide) (fun hc14 => ?_) (fun hc14 => ?_)
      · have hw := hw.1 hc14
        refine lv_iconst (v := 1) hx hb dX7_noFraction_23 (by decide) ?_
        refine lv_goto (tgt := 28) hx hb dX7_noFraction_24 (by decide) ?_
        exact W.zret (v := 1) hx hb hr rfl (fun t ht hW => ⟨⟨1, (), rfl, hw, trivial⟩, hS.F ht⟩) hS.2.2 dX7_noFraction_28 hlocks
      · have hw := hw.2 hc14
        refine lv_iload_n hx hb dX7_noFraction_17 rfl (lv_at hl 1 rfl) ?_
        refine lv_bipush (v := 20) hx hb dX7_noFraction_18 (by decide) ?_
        refine lv_icmp_le (tgt := 27) hx hb dX7_noFraction_20 (by decide) (fun hc20 => ?_) (fun hc20 => ?_)
        · have hw := hw.1 hc20
          refine lv_iconst (v := 0) hx hb dX7_noFraction_27 (by decide) ?_
          exact W.zret (v := 0) hx hb hr rfl (fun t ht hW => ⟨⟨0, (), rfl, hw, trivial⟩, hS.F ht⟩) hS.2.2 dX7_noFraction_28 hlocks
        · have hw := hw.2 hc20
          refine lv_iconst (v := 1) hx hb dX7_noFraction_23 (by decide) ?_
          refine lv_goto (tgt := 28) hx hb dX7_noFraction_24 (by decide) ?_
          exact W.zret (v := 1) hx hb hr rfl (fun t ht hW => ⟨⟨1, (), rfl, hw, trivial⟩, hS.F ht⟩) hS.2.2 dX7_noFraction_28 hlocks
-- ===== ExactFilterModel.noModel
abbrev rX7_noModel : Room := { frames := 0, cells := 0, slots := 0, locals := 0 }
def wj_X7_noModel_18 (sz : Int32) (post : Int32 → Prop)   : Prop := post 1 
def wj_X7_noModel_82 (sz : Int32) (post : Int32 → Prop)  (s0 : Int32) : Prop := narrow .boolean (.int s0) = .int s0 ∧ post s0 
def wj_X7_noModel_77 (sz : Int32) (post : Int32 → Prop)   : Prop := wj_X7_noModel_82 sz post  1
def wj_X7_noModel_74 (sz : Int32) (post : Int32 → Prop)  (s0 : Int32) (s1 : Int32) : Prop := (s0 < s1 → wj_X7_noModel_82 sz post  0) ∧ (¬ s0 < s1 → wj_X7_noModel_77 sz post  )
def wj_X7_noModel_57 (sz : Int32) (post : Int32 → Prop)  (x3 : Int32) (x4 : Int32) (s0 : Int32) (s1 : Int32) : Prop := (s1 ≤ s0 → wj_X7_noModel_77 sz post  ) ∧ (¬ s1 ≤ s0 → (x4 = 0 → wj_X7_noModel_74 sz post  x3 1) ∧ (¬ x4 = 0 → wj_X7_noModel_74 sz post  x3 sz))
def wj_X7_noModel_40 (sz : Int32) (post : Int32 → Prop)  (x1 : Int32) (x2 : Int32) (x3 : Int32) (s0 : Int32) : Prop := (¬ x1 = 6 → wj_X7_noModel_57 sz post  x3 s0 x2 sz) ∧ (x1 = 6 → wj_X7_noModel_57 sz post  x3 s0 x2 1)
def wj_X7_noModel_35 (sz : Int32) (post : Int32 → Prop)  (x1 : Int32) (x2 : Int32) (x3 : Int32) : Prop := wj_X7_noModel_40 sz post  x1 x2 x3 1
def wp_X7_noModel (sz : Int32) (x1 : Int32) (x2 : Int32) (x3 : Int32) (post : Int32 → Prop) : Prop := (x1 < 0 → wj_X7_noModel_18 sz post  ) ∧ (¬ x1 < 0 → (6 < x1 → wj_X7_noModel_18 sz post  ) ∧ (¬ 6 < x1 → (x2 < 0 → wj_X7_noModel_18 sz post  ) ∧ (¬ x2 < 0 → (0 ≤ x3 → (x1 = 1 → wj_X7_noModel_35 sz post  x1 x2 x3) ∧ (¬ x1 = 1 → (x1 = 2 → wj_X7_noModel_35 sz post  x1 x2 x3) ∧ (¬ x1 = 2 → (¬ x1 = 4 → wj_X7_noModel_40 sz post  x1 x2 x3 0) ∧ (x1 = 4 → wj_X7_noModel_35 sz post  x1 x2 x3)))) ∧ (¬ 0 ≤ x3 → wj_X7_noModel_18 sz post  ))))
set_option maxHeartbeats 4000000 in
set_option maxRecDepth 100000 in
theorem mj_X7_noModel_18 (C : C7 p s m args meth c D cI q cX7_noModel 5 (some .boolean)) (th : Int32) (sz : Int32) (sd : Int32) (ss : Int32) (pr : Int32) (me : Int32) (ab : Nat → Int32) (be : Nat → Int32) (pi : Nat → Int32) (le : Nat → Int32) (sg : Nat → Int32) (wo : Nat → Int32) (post : Int32 → Prop) 
    
     (H : Heap) (locs : List Loc) (ls : Array Slot) (hw : wj_X7_noModel_18 sz post  ) (hP : va_P D vwCl (w7 cI q th sz sd ss pr me ab be pi le sg wo) H) (hS : va_S (A7 q) s.heap H locs) (hl : lv_has ls 5 []) : W p l e rX7_noModel s m args below meth c H locs 0 0 (MQ below (va_Qi (S := Unit) (fun r u => post r ) (fun u t => va_P D vwCl (w7 cI q th sz sd ss pr me ab be pi le sg wo) t.heap) (A7 q)) args s 0 0 (A7 q)) (F0 m 18 ls []) := by
  obtain ⟨hx, hb, hr, hml, hown, hg, hlocks, hK, hap⟩ := id C
  unfold wj_X7_noModel_18 at hw
  refine lv_iconst (v := 1) hx hb dX7_noModel_18 (by decide) ?_
  exact W.zret (v := 1) hx hb hr rfl (fun t ht hW => ⟨⟨1, (), rfl, hw, by show va_P D vwCl _ t.heap; rw [ht]; exact hP⟩, hS.F ht⟩) hS.2.2 dX7_noModel_19 hlocks
set_option maxHeartbeats 4000000 in
set_option maxRecDepth 100000 in
theorem mj_X7_noModel_82 (C : C7 p s m args meth c D cI q cX7_noModel 5 (some .boolean)) (th : Int32) (sz : Int32) (sd : Int32) (ss : Int32) (pr : Int32) (me : Int32) (ab : Nat → Int32) (be : Nat → Int32) (pi : Nat → Int32) (le : Nat → Int32) (sg : Nat → Int32) (wo : Nat → Int32) (post : Int32 → Prop) 
    
    (s0 : Int32) (H : Heap) (locs : List Loc) (ls : Array Slot) (hw : wj_X7_noModel_82 sz post  s0) (hP : va_P D vwCl (w7 cI q th sz sd ss pr me ab be pi le sg wo) H) (hS : va_S (A7 q) s.heap H locs) (hl : lv_has ls 5 []) : W p l e rX7_noModel s m args below meth c H locs 0 0 (MQ below (va_Qi (S := Unit) (fun r u => post r ) (fun u t => va_P D vwCl (w7 cI q th sz sd ss pr me ab be pi le sg wo) t.heap) (A7 q)) args s 0 0 (A7 q)) (F0 m 82 ls [.int s0]) := by
  obtain ⟨hx, hb, hr, hml, hown, hg, hlocks, hK, hap⟩ := id C
  unfold wj_X7_noModel_82 at hw
  exact W.zret (v := s0) hx hb hr hw.1 (fun t ht hW => ⟨⟨s0, (), rfl, hw.2, by show va_P D vwCl _ t.heap; rw [ht]; exact hP⟩, hS.F ht⟩) hS.2.2 dX7_noModel_82 hlocks
set_option maxHeartbeats 4000000 in
set_option maxRecDepth 100000 in
theorem mj_X7_noModel_77 (C : C7 p s m args meth c D cI q cX7_noModel 5 (some .boolean)) (th : Int32) (sz : Int32) (sd : Int32) (ss : Int32) (pr : Int32) (me : Int32) (ab : Nat → Int32) (be : Nat → Int32) (pi : Nat → Int32) (le : Nat → Int32) (sg : Nat → Int32) (wo : Nat → Int32) (post : Int32 → Prop) 
    
     (H : Heap) (locs : List Loc) (ls : Array Slot) (hw : wj_X7_noModel_77 sz post  ) (hP : va_P D vwCl (w7 cI q th sz sd ss pr me ab be pi le sg wo) H) (hS : va_S (A7 q) s.heap H locs) (hl : lv_has ls 5 []) : W p l e rX7_noModel s m args below meth c H locs 0 0 (MQ below (va_Qi (S := Unit) (fun r u => post r ) (fun u t => va_P D vwCl (w7 cI q th sz sd ss pr me ab be pi le sg wo) t.heap) (A7 q)) args s 0 0 (A7 q)) (F0 m 77 ls []) := by
  obtain ⟨hx, hb, hr, hml, hown, hg, hlocks, hK, hap⟩ := id C
  unfold wj_X7_noModel_77 at hw
  refine lv_iconst (v := 1) hx hb dX7_noModel_77 (by decide) ?_
  refine lv_goto (tgt := 82) hx hb dX7_noModel_78 (by decide) ?_
  exact mj_X7_noModel_82 C th sz sd ss pr me ab be pi le sg wo post  _ _ _ _ hw hP hS (lv_sub hl [] rfl)
set_option maxHeartbeats 4000000 in
set_option maxRecDepth 100000 in
theorem mj_X7_noModel_74 (C : C7 p s m args meth c D cI q cX7_noModel 5 (some .boolean)) (th : Int32) (sz : Int32) (sd : Int32) (ss : Int32) (pr : Int32) (me : Int32) (ab : Nat → Int32) (be : Nat → Int32) (pi : Nat → Int32) (le : Nat → Int32) (sg : Nat → Int32) (wo : Nat → Int32) (post : Int32 → Prop) 
    
    (s0 : Int32) (s1 : Int32) (H : Heap) (locs : List Loc) (ls : Array Slot) (hw : wj_X7_noModel_74 sz post  s0 s1) (hP : va_P D vwCl (w7 cI q th sz sd ss pr me ab be pi le sg wo) H) (hS : va_S (A7 q) s.heap H locs) (hl : lv_has ls 5 []) : W p l e rX7_noModel s m args below meth c H locs 0 0 (MQ below (va_Qi (S := Unit) (fun r u => post r ) (fun u t => va_P D vwCl (w7 cI q th sz sd ss pr me ab be pi le sg wo) t.heap) (A7 q)) args s 0 0 (A7 q)) (F0 m 74 ls [.int s1, .int s0]) := by
  obtain ⟨hx, hb, hr, hml, hown, hg, hlocks, hK, hap⟩ := id C
  unfold wj_X7_noModel_74 at hw
  refine lv_icmp_lt (tgt := 81) hx hb dX7_noModel_74 (by decide) (fun hc74 => ?_) (fun hc74 => ?_)
  · have hw := hw.1 hc74
    refine lv_iconst (v := 0) hx hb dX7_noModel_81 (by decide) ?_
    exact mj_X7_noModel_82 C th sz sd ss pr me ab be pi le sg wo post  _ _ _ _ hw hP hS (lv_sub hl [] rfl)
  · have hw := hw.2 hc74
    exact mj_X7_noModel_77 C th sz sd ss pr me ab be pi le sg wo post   _ _ _ hw hP hS (lv_sub hl [] rfl)
set_option maxHeartbeats 4000000 in
set_option maxRecDepth 100000 in
theorem mj_X7_noModel_57 (C : C7 p s m args meth c D cI q cX7_noModel 5 (some .boolean)) (th : Int32) (sz : Int32) (sd : Int32) (ss : Int32) (pr : Int32) (me : Int32) (ab : Nat → Int32) (be : Nat → Int32) (pi : Nat → Int32) (le : Nat → Int32) (sg : Nat → Int32) (wo : Nat → Int32) (post : Int32 → Prop) 
    
    (x3 : Int32) (x4 : Int32) (s0 : Int32) (s1 : Int32) (H : Heap) (locs : List Loc) (ls : Array Slot) (hw : wj_X7_noModel_57 sz post  x3 x4 s0 s1) (hP : va_P D vwCl (w7 cI q th sz sd ss pr me ab be pi le sg wo) H) (hS : va_S (A7 q) s.heap H locs) (hl : lv_has ls 5 [(0, .ref (q 0)), (3, .int x3), (4, .int x4)]) : W p l e rX7_noModel s m args below meth c H locs 0 0 (MQ below (va_Qi (S := Unit) (fun r u => post r ) (fun u t => va_P D vwCl (w7 cI q th sz sd ss pr me ab be pi le sg wo) t.heap) (A7 q)) args s 0 0 (A7 q)) (F0 m 57 ls [.int s1, .int s0]) := by
  obtain ⟨hx, hb, hr, hml, hown, hg, hlocks, hK, hap⟩ := id C
  unfold wj_X7_noModel_57 at hw
  refine lv_icmp_ge (tgt := 77) hx hb dX7_noModel_57 (by decide) (fun hc57 => ?_) (fun hc57 => ?_)
  · have hw := hw.1 hc57
    exact mj_X7_noModel_77 C th sz sd ss pr me ab be pi le sg wo post   _ _ _ hw hP hS (lv_sub hl [] rfl)
  · have hw := hw.2 hc57
    refine lv_iload_n hx hb dX7_noModel_60 rfl (lv_at hl 1 rfl) ?_
    refine lv_iload hx hb dX7_noModel_61 (lv_at hl 2 rfl) ?_
    refine lv_if_eq (tgt := 73) hx hb dX7_noModel_63 (by decide) (fun hc63 => ?_) (fun hc63 => ?_)
    · have hw := hw.1 hc63
      refine lv_iconst (v := 1) hx hb dX7_noModel_73 (by decide) ?_
      exact mj_X7_noModel_74 C th sz sd ss pr me ab be pi le sg wo post  _ _ _ _ _ hw hP hS (lv_sub hl [] rfl)
    · have hw := hw.2 hc63
      refine lv_aload_n hx hb dX7_noModel_66 rfl (lv_at hl 0 rfl) ?_
      refine va_get (D := D) (ci := 7) (v := .int sz) (C := RX7) (T := TX7) (N := 12) hx hb hg ku_X7 hown hK hP 0 rfl rfl 1 (by decide) (hg _ kf_X7_13) (fun _ h9 => h9) rfl dX7_noModel_67 ?_
      refine lv_goto (tgt := 74) hx hb dX7_noModel_70 (by decide) ?_
      exact mj_X7_noModel_74 C th sz sd ss pr me ab be pi le sg wo post  _ _ _ _ _ hw hP hS (lv_sub hl [] rfl)
set_option maxHeartbeats 4000000 in
set_option maxRecDepth 100000 in
theorem mj_X7_noModel_40 (C : C7 p s m args meth c D cI q cX7_noModel 5 (some .boolean)) (th : Int32) (sz : Int32) (sd : Int32) (ss : Int32) (pr : Int32) (me : Int32) (ab : Nat → Int32) (be : Nat → Int32) (pi : Nat → Int32) (le : Nat → Int32) (sg : Nat → Int32) (wo : Nat → Int32) (post : Int32 → Prop) 
    
    (x1 : Int32) (x2 : Int32) (x3 : Int32) (s0 : Int32) (H : Heap) (locs : List Loc) (ls : Array Slot) (hw : wj_X7_noModel_40 sz post  x1 x2 x3 s0) (hP : va_P D vwCl (w7 cI q th sz sd ss pr me ab be pi le sg wo) H) (hS : va_S (A7 q) s.heap H locs) (hl : lv_has ls 5 [(0, .ref (q 0)), (1, .int x1), (2, .int x2), (3, .int x3)]) : W p l e rX7_noModel s m args below meth c H locs 0 0 (MQ below (va_Qi (S := Unit) (fun r u => post r ) (fun u t => va_P D vwCl (w7 cI q th sz sd ss pr me ab be pi le sg wo) t.heap) (A7 q)) args s 0 0 (A7 q)) (F0 m 40 ls [.int s0]) := by
  obtain ⟨hx, hb, hr, hml, hown, hg, hlocks, hK, hap⟩ := id C
  unfold wj_X7_noModel_40 at hw
  refine lv_istore (lv' := [(4, .int s0), (0, .ref (q 0)), (1, .int x1), (2, .int x2), (3, .int x3)]) hx hb dX7_noModel_40 hl (by decide) rfl (fun ls hl => ?_)
  refine lv_iload_n hx hb dX7_noModel_42 rfl (lv_at hl 3 rfl) ?_
  refine lv_iload_n hx hb dX7_noModel_43 rfl (lv_at hl 2 rfl) ?_
  refine lv_bipush (v := 6) hx hb dX7_noModel_44 (by decide) ?_
  refine lv_icmp_ne (tgt := 53) hx hb dX7_noModel_46 (by decide) (fun hc46 => ?_) (fun hc46 => ?_)
  · have hw := hw.1 hc46
    refine lv_aload_n hx hb dX7_noModel_53 rfl (lv_at hl 1 rfl) ?_
    refine va_get (D := D) (ci := 7) (v := .int sz) (C := RX7) (T := TX7) (N := 12) hx hb hg ku_X7 hown hK hP 0 rfl rfl 1 (by decide) (hg _ kf_X7_13) (fun _ h9 => h9) rfl dX7_noModel_54 ?_
    exact mj_X7_noModel_57 C th sz sd ss pr me ab be pi le sg wo post  _ _ _ _ _ _ _ hw hP hS (lv_sub hl [1, 4, 0] rfl)
  · have hw := hw.2 hc46
    refine lv_iconst (v := 1) hx hb dX7_noModel_49 (by decide) ?_
    refine lv_goto (tgt := 57) hx hb dX7_noModel_50 (by decide) ?_
    exact mj_X7_noModel_57 C th sz sd ss pr me ab be pi le sg wo post  _ _ _ _ _ _ _ hw hP hS (lv_sub hl [1, 4, 0] rfl)
set_option maxHeartbeats 4000000 in
set_option maxRecDepth 100000 in
theorem mj_X7_noModel_35 (C : C7 p s m args meth c D cI q cX7_noModel 5 (some .boolean)) (th : Int32) (sz : Int32) (sd : Int32) (ss : Int32) (pr : Int32) (me : Int32) (ab : Nat → Int32) (be : Nat → Int32) (pi : Nat → Int32) (le : Nat → Int32) (sg : Nat → Int32) (wo : Nat → Int32) (post : Int32 → Prop) 
    
    (x1 : Int32) (x2 : Int32) (x3 : Int32) (H : Heap) (locs : List Loc) (ls : Array Slot) (hw : wj_X7_noModel_35 sz post  x1 x2 x3) (hP : va_P D vwCl (w7 cI q th sz sd ss pr me ab be pi le sg wo) H) (hS : va_S (A7 q) s.heap H locs) (hl : lv_has ls 5 [(0, .ref (q 0)), (1, .int x1), (2, .int x2), (3, .int x3)]) : W p l e rX7_noModel s m args below meth c H locs 0 0 (MQ below (va_Qi (S := Unit) (fun r u => post r ) (fun u t => va_P D vwCl (w7 cI q th sz sd ss pr me ab be pi le sg wo) t.heap) (A7 q)) args s 0 0 (A7 q)) (F0 m 35 ls []) := by
  obtain ⟨hx, hb, hr, hml, hown, hg, hlocks, hK, hap⟩ := id C
  unfold wj_X7_noModel_35 at hw
  refine lv_iconst (v := 1) hx hb dX7_noModel_35 (by decide) ?_
  refine lv_goto (tgt := 40) hx hb dX7_noModel_36 (by decide) ?_
  exact mj_X7_noModel_40 C th sz sd ss pr me ab be pi le sg wo post  _ _ _ _ _ _ _ hw hP hS (lv_sub hl [0, 1, 2, 3] rfl)
set_option maxHeartbeats 4000000 in
set_option maxRecDepth 100000 in
theorem m_X7_noModel (l : Launch) (D : va_G) (cI : ClassId) (q : Nat → Nat) (th : Int32) (sz : Int32) (sd : Int32) (ss : Int32) (pr : Int32) (me : Int32) (ab : Nat → Int32) (be : Nat → Int32) (pi : Nat → Int32) (le : Nat → Int32) (sg : Nat → Int32) (wo : Nat → Int32) (x1 : Int32) (x2 : Int32) (x3 : Int32) (post : Int32 → Prop) (hw : wp_X7_noModel sz x1 x2 x3 post) : Met l yX7_noModel (wu yX7_noModel cX7_noModel 5 (some .boolean)) rX7_noModel (va_Pc [.ref (q 0), .int x1, .int x2, .int x3] (fun U => va_P D vwCl (w7 cI q th sz sd ss pr me ab be pi le sg wo) U.heap ∧ K7 D cI q U)) (va_Qi (S := Unit) (fun r u => post r ) (fun u t => va_P D vwCl (w7 cI q th sz sd ss pr me ab be pi le sg wo) t.heap) (A7 q)) 0 0 (A7 q) := by
  refine Met.ofW (cc := cX7_noModel) (maxL := 5) (ret := (some .boolean)) (by decide) rfl ?_
  intro p e s m args below meth c s₁ B hml hv
  obtain ⟨rfl, hP, hK, hap⟩ := hv
  have C : C7 p s m _ meth c D cI q cX7_noModel 5 (some .boolean) := ⟨B.exec, B.bytes, B.returns, hml, findClass_of_methodNamed B.named, x_hg (atoms_spec (ws := wu yX7_noModel cX7_noModel 5 (some .boolean)) B.pre), B.notSynchronized, hK, hap⟩
  obtain ⟨hx, hb, hr, hml, hown, hg, hlocks, hK, hap⟩ := id C
  have hS : va_S (A7 q) s.heap s.heap [] := va_S.rf
  have hl := lv_entry ([.ref (q 0), .int x1, .int x2, .int x3]) (n := 5) (Nat.le_of_ble_eq_true rfl)
  rw [lg_entry_eq]
  generalize (lg_sl ([.ref (q 0), .int x1, .int x2, .int x3]) ++ List.replicate (5 - (lg_sl ([.ref (q 0), .int x1, .int x2, .int x3])).length) Slot.unset).toArray = ls at hl ⊢
  have hl : lv_has ls 5 [(0, .ref (q 0)), (1, .int x1), (2, .int x2), (3, .int x3)] := hl
  unfold wp_X7_noModel at hw
  refine lv_iload_n hx hb dX7_noModel_0 rfl (lv_at hl 1 rfl) ?_
  refine lv_if_lt (tgt := 18) hx hb dX7_noModel_1 (by decide) (fun hc1 => ?_) (fun hc1 => ?_)
  · have hw := hw.1 hc1
    exact mj_X7_noModel_18 C th sz sd ss pr me ab be pi le sg wo post   _ _ _ hw hP hS (lv_sub hl [] rfl)
  · have hw := hw.2 hc1
    refine lv_iload_n hx hb dX7_noModel_4 rfl (lv_at hl 1 rfl) ?_
    refine lv_bipush (v := 6) hx hb dX7_noModel_5 (by decide) ?_
    refine lv_icmp_gt (tgt := 18) hx hb dX7_noModel_7 (by decide) (fun hc7 => ?_) (fun hc7 => ?_)
    · have hw := hw.1 hc7
      exact mj_X7_noModel_18 C th sz sd ss pr me ab be pi le sg wo post   _ _ _ hw hP hS (lv_sub hl [] rfl)
    · have hw := hw.2 hc7
      refine lv_iload_n hx hb dX7_noModel_10 rfl (lv_at hl 2 rfl) ?_
      refine lv_if_lt (tgt := 18) hx hb dX7_noModel_11 (by decide) (fun hc11 => ?_) (fun hc11 => ?_)
      · have hw := hw.1 hc11
        exact mj_X7_noModel_18 C th sz sd ss pr me ab be pi le sg wo post   _ _ _ hw hP hS (lv_sub hl [] rfl)
      · have hw := hw.2 hc11
        refine lv_iload_n hx hb dX7_noModel_14 rfl (lv_at hl 3 rfl) ?_
        refine lv_if_ge (tgt := 20) hx hb dX7_noModel_15 (by decide) (fun hc15 => ?_) (fun hc15 => ?_)
        · have hw := hw.1 hc15
          refine lv_iload_n hx hb dX7_noModel_20 rfl (lv_at hl 1 rfl) ?_
          refine lv_iconst (v := 1) hx hb dX7_noModel_21 (by decide) ?_
          refine lv_icmp_eq (tgt := 35) hx hb dX7_noModel_22 (by decide) (fun hc22 => ?_) (fun hc22 => ?_)
          · have hw := hw.1 hc22
            exact mj_X7_noModel_35 C th sz sd ss pr me ab be pi le sg wo post  _ _ _ _ _ _ hw hP hS (lv_sub hl [0, 1, 2, 3] rfl)
          · have hw := hw.2 hc22
            refine lv_iload_n hx hb dX7_noModel_25 rfl (lv_at hl 1 rfl) ?_
            refine lv_iconst (v := 2) hx hb dX7_noModel_26 (by decide) ?_
            refine lv_icmp_eq (tgt := 35) hx hb dX7_noModel_27 (by decide) (fun hc27 => ?_) (fun hc27 => ?_)
            · have hw := hw.1 hc27
              exact mj_X7_noModel_35 C th sz sd ss pr me ab be pi le sg wo post  _ _ _ _ _ _ hw hP hS (lv_sub hl [0, 1, 2, 3] rfl)
            · have hw := hw.2 hc27
              refine lv_iload_n hx hb dX7_noModel_30 rfl (lv_at hl 1 rfl) ?_
              refine lv_iconst (v := 4) hx hb dX7_noModel_31 (by decide) ?_
              refine lv_icmp_ne (tgt := 39) hx hb dX7_noModel_32 (by decide) (fun hc32 => ?_) (fun hc32 => ?_)
              · have hw := hw.1 hc32
                refine lv_iconst (v := 0) hx hb dX7_noModel_39 (by decide) ?_
                exact mj_X7_noModel_40 C th sz sd ss pr me ab be pi le sg wo post  _ _ _ _ _ _ _ hw hP hS (lv_sub hl [0, 1, 2, 3] rfl)
              · have hw := hw.2 hc32
                exact mj_X7_noModel_35 C th sz sd ss pr me ab be pi le sg wo post  _ _ _ _ _ _ hw hP hS (lv_sub hl [0, 1, 2, 3] rfl)
        · have hw := hw.2 hc15
          exact mj_X7_noModel_18 C th sz sd ss pr me ab be pi le sg wo post   _ _ _ hw hP hS (lv_sub hl [] rfl)
-- ===== ExactFilterModel.set
abbrev rX7_set : Room := { frames := 1, cells := 0, slots := 0, locals := 24 }
def wj_X7_set_99 (sz : Int32) (post : Int32 → (Nat → Int32) → (Nat → Int32) → Prop)  (th : Int32) (ab : Nat → Int32) (be : Nat → Int32) : Prop := post th ab be
def wj_X7_set_73 (sz : Int32) (post : Int32 → (Nat → Int32) → (Nat → Int32) → Prop)  (th : Int32) (ab : Nat → Int32) (be : Nat → Int32) (x1 : Int32) (x2 : Int32) (x3 : Int32) (x4 : Int32) (x5 : Int32) : Prop := wp_X7_at  x1 x3 x2 (fun (r_80 : Int32) => vp_in r_80 40 ∧ wp_X7_at  x1 x3 x2 (fun (r_93 : Int32) => vp_in r_93 40 ∧ wj_X7_set_99 sz post  th (upd ab (r_80 : Int32).toNatClampNeg x4) (upd be (r_93 : Int32).toNatClampNeg x5)))
def wj_X7_set_26 (sz : Int32) (post : Int32 → (Nat → Int32) → (Nat → Int32) → Prop)  (th : Int32) (ab : Nat → Int32) (be : Nat → Int32) (x1 : Int32) (x2 : Int32) (x3 : Int32) (x4 : Int32) (x5 : Int32) (s1 : Int32) : Prop := (s1 = 0 → wp_X7_at  x1 x2 x3 (fun (r_44 : Int32) => vp_in r_44 40 ∧ wp_X7_at  x1 x2 x3 (fun (r_57 : Int32) => vp_in r_57 40 ∧ (x1 = 1 → wj_X7_set_73 sz post  s1 (upd ab (r_44 : Int32).toNatClampNeg x4) (upd be (r_57 : Int32).toNatClampNeg x5) x1 x2 x3 x4 x5) ∧ (¬ x1 = 1 → (¬ x1 = 4 → wj_X7_set_99 sz post  s1 (upd ab (r_44 : Int32).toNatClampNeg x4) (upd be (r_57 : Int32).toNatClampNeg x5)) ∧ (x1 = 4 → wj_X7_set_73 sz post  s1 (upd ab (r_44 : Int32).toNatClampNeg x4) (upd be (r_57 : Int32).toNatClampNeg x5) x1 x2 x3 x4 x5))))) ∧ (¬ s1 = 0 → post s1 ab be)
def wj_X7_set_21 (sz : Int32) (post : Int32 → (Nat → Int32) → (Nat → Int32) → Prop)  (th : Int32) (ab : Nat → Int32) (be : Nat → Int32) (x1 : Int32) (x2 : Int32) (x3 : Int32) (x4 : Int32) (x5 : Int32) : Prop := wj_X7_set_26 sz post  th ab be x1 x2 x3 x4 x5 1
def wp_X7_set (th : Int32) (sz : Int32) (ab : Nat → Int32) (be : Nat → Int32) (x1 : Int32) (x2 : Int32) (x3 : Int32) (x4 : Int32) (x5 : Int32) (post : Int32 → (Nat → Int32) → (Nat → Int32) → Prop) : Prop := wp_X7_noModel sz x1 x2 x3 (fun (r_5 : Int32) => (¬ r_5 = 0 → wj_X7_set_21 sz post  th ab be x1 x2 x3 x4 x5) ∧ (r_5 = 0 → wp_X7_noFraction  x4 x5 (fun (r_15 : Int32) => (r_15 = 0 → wj_X7_set_26 sz post  th ab be x1 x2 x3 x4 x5 0) ∧ (¬ r_15 = 0 → wj_X7_set_21 sz post  th ab be x1 x2 x3 x4 x5))))
set_option maxHeartbeats 4000000 in
set_option maxRecDepth 100000 in
theorem mj_X7_set_99 (C : C7 p s m args meth c D cI q cX7_set 6 none) (sz : Int32) (sd : Int32) (ss : Int32) (pr : Int32) (me : Int32) (pi : Nat → Int32) (le : Nat → Int32) (sg : Nat → Int32) (wo : Nat → Int32) (post : Int32 → (Nat → Int32) → (Nat → Int32) → Prop) 
    
    (th : Int32) (ab : Nat → Int32) (be : Nat → Int32) (H : Heap) (locs : List Loc) (ls : Array Slot) (hw : wj_X7_set_99 sz post  th ab be) (hP : va_P D vwCl (w7 cI q th sz sd ss pr me ab be pi le sg wo) H) (hS : va_S (A7 q) s.heap H locs) (hl : lv_has ls 6 []) : W p l e rX7_set s m args below meth c H locs 0 0 (MQ below (va_Qv (S := Int32 × (Nat → Int32) × (Nat → Int32)) (fun u => post u.1 u.2.1 u.2.2) (fun u t => va_P D vwCl (w7 cI q u.1 sz sd ss pr me u.2.1 u.2.2 pi le sg wo) t.heap) (A7 q)) args s 0 0 (A7 q)) (F0 m 99 ls []) := by
  obtain ⟨hx, hb, hr, hml, hown, hg, hlocks, hK, hap⟩ := id C
  unfold wj_X7_set_99 at hw
  exact W.vret hx hb hr (fun t ht hW => ⟨⟨(th, ab, be), rfl, hw, by show va_P D vwCl _ t.heap; rw [ht]; exact hP⟩, hS.F ht⟩) hS.2.2 dX7_set_99 hlocks
set_option maxHeartbeats 4000000 in
set_option maxRecDepth 100000 in
theorem mj_X7_set_73 (C : C7 p s m args meth c D cI q cX7_set 6 none) (sz : Int32) (sd : Int32) (ss : Int32) (pr : Int32) (me : Int32) (pi : Nat → Int32) (le : Nat → Int32) (sg : Nat → Int32) (wo : Nat → Int32) (post : Int32 → (Nat → Int32) → (Nat → Int32) → Prop) 
    
    (th : Int32) (ab : Nat → Int32) (be : Nat → Int32) (x1 : Int32) (x2 : Int32) (x3 : Int32) (x4 : Int32) (x5 : Int32) (H : Heap) (locs : List Loc) (ls : Array Slot) (hw : wj_X7_set_73 sz post  th ab be x1 x2 x3 x4 x5) (hP : va_P D vwCl (w7 cI q th sz sd ss pr me ab be pi le sg wo) H) (hS : va_S (A7 q) s.heap H locs) (hl : lv_has ls 6 [(0, .ref (q 0)), (1, .int x1), (2, .int x2), (3, .int x3), (4, .int x4), (5, .int x5)]) : W p l e rX7_set s m args below meth c H locs 0 0 (MQ below (va_Qv (S := Int32 × (Nat → Int32) × (Nat → Int32)) (fun u => post u.1 u.2.1 u.2.2) (fun u t => va_P D vwCl (w7 cI q u.1 sz sd ss pr me u.2.1 u.2.2 pi le sg wo) t.heap) (A7 q)) args s 0 0 (A7 q)) (F0 m 73 ls []) := by
  obtain ⟨hx, hb, hr, hml, hown, hg, hlocks, hK, hap⟩ := id C
  unfold wj_X7_set_73 at hw
  refine lv_aload_n hx hb dX7_set_73 rfl (lv_at hl 0 rfl) ?_
  refine va_get (D := D) (ci := 7) (v := .ref (q 1)) (C := RX7) (T := TX7) (N := 12) hx hb hg ku_X7 hown hK hP 0 rfl rfl 2 (by decide) (hg _ kf_X7_16) (fun _ h9 => h9) rfl dX7_set_74 ?_
  refine lv_iload_n hx hb dX7_set_77 rfl (lv_at hl 1 rfl) ?_
  refine lv_iload_n hx hb dX7_set_78 rfl (lv_at hl 3 rfl) ?_
  refine lv_iload_n hx hb dX7_set_79 rfl (lv_at hl 2 rfl) ?_
  refine va_calli (va_runS (As := [.int x1, .int x3, .int x2]) (rest := [.ref (q 1)]) ⟨hx, hb, hml, hown, hg⟩ (m_X7_at l x1 x3 x2 _ hw) (va_cwS 3 hg (x_gS km_X7_53 ks_X7_at kn_X7 kk_X7_at) rfl rfl rfl (by decide +kernel) ⟨Nat.le_of_ble_eq_true rfl, Nat.le_of_ble_eq_true rfl⟩) pre7S rfl rfl hl.1 rfl (lv_room (Nat.le_of_ble_eq_true rfl)) dX7_set_80 ⟨Nat.zero_le _, Nat.zero_le _⟩) hS (fun _ _ h => h.elim) (fun _ h => h.elim) (fun r_80 u t H1 locs1 ht hvm hw hB hz1 hk1 hS => ?_)
  have hP := hP.kept (fun k9 q9 h9 => hk1 q9.1 ((hP k9 q9 h9).lt) (fun z => z.elim))
  clear hB; generalize H1 = H at hP hS ⊢; generalize locs1 = locs at hS ⊢; try dsimp only at hw
  refine lv_iload hx hb dX7_set_83 (lv_at hl 4 rfl) ?_
  obtain ⟨hi85, hw⟩ := hw
  refine va_iast (D := D) hx hb hK hP (D7 hap) hS 1 0 rfl rfl hi85 dX7_set_85 (fun H locs hP _ hS => ?_)
  have hP : va_P D vwCl (w7 cI q th sz sd ss pr me (upd ab (r_80 : Int32).toNatClampNeg x4) be pi le sg wo) H := hP
  refine lv_aload_n hx hb dX7_set_86 rfl (lv_at hl 0 rfl) ?_
  refine va_get (D := D) (ci := 7) (v := .ref (q 2)) (C := RX7) (T := TX7) (N := 12) hx hb hg ku_X7 hown hK hP 0 rfl rfl 3 (by decide) (hg _ kf_X7_20) (fun _ h9 => h9) rfl dX7_set_87 ?_
  refine lv_iload_n hx hb dX7_set_90 rfl (lv_at hl 1 rfl) ?_
  refine lv_iload_n hx hb dX7_set_91 rfl (lv_at hl 3 rfl) ?_
  refine lv_iload_n hx hb dX7_set_92 rfl (lv_at hl 2 rfl) ?_
  refine va_calli (va_runS (As := [.int x1, .int x3, .int x2]) (rest := [.ref (q 2)]) ⟨hx, hb, hml, hown, hg⟩ (m_X7_at l x1 x3 x2 _ hw) (va_cwS 3 hg (x_gS km_X7_53 ks_X7_at kn_X7 kk_X7_at) rfl rfl rfl (by decide +kernel) ⟨Nat.le_of_ble_eq_true rfl, Nat.le_of_ble_eq_true rfl⟩) pre7S rfl rfl hl.1 rfl (lv_room (Nat.le_of_ble_eq_true rfl)) dX7_set_93 ⟨Nat.zero_le _, Nat.zero_le _⟩) hS (fun _ _ h => h.elim) (fun _ h => h.elim) (fun r_93 u t H1 locs1 ht hvm hw hB hz1 hk1 hS => ?_)
  have hP := hP.kept (fun k9 q9 h9 => hk1 q9.1 ((hP k9 q9 h9).lt) (fun z => z.elim))
  clear hB; generalize H1 = H at hP hS ⊢; generalize locs1 = locs at hS ⊢; try dsimp only at hw
  refine lv_iload hx hb dX7_set_96 (lv_at hl 5 rfl) ?_
  obtain ⟨hi98, hw⟩ := hw
  refine va_iast (D := D) hx hb hK hP (D7 hap) hS 2 0 rfl rfl hi98 dX7_set_98 (fun H locs hP _ hS => ?_)
  have hP : va_P D vwCl (w7 cI q th sz sd ss pr me (upd ab (r_80 : Int32).toNatClampNeg x4) (upd be (r_93 : Int32).toNatClampNeg x5) pi le sg wo) H := hP
  exact mj_X7_set_99 C sz sd ss pr me pi le sg wo post  _ _ _ _ _ _ hw hP hS (lv_sub hl [] rfl)
set_option maxHeartbeats 4000000 in
set_option maxRecDepth 100000 in
theorem mj_X7_set_26 (C : C7 p s m args meth c D cI q cX7_set 6 none) (sz : Int32) (sd : Int32) (ss : Int32) (pr : Int32) (me : Int32) (pi : Nat → Int32) (le : Nat → Int32) (sg : Nat → Int32) (wo : Nat → Int32) (post : Int32 → (Nat → Int32) → (Nat → Int32) → Prop) 
    
    (th : Int32) (ab : Nat → Int32) (be : Nat → Int32) (x1 : Int32) (x2 : Int32) (x3 : Int32) (x4 : Int32) (x5 : Int32) (s1 : Int32) (H : Heap) (locs : List Loc) (ls : Array Slot) (hw : wj_X7_set_26 sz post  th ab be x1 x2 x3 x4 x5 s1) (hP : va_P D vwCl (w7 cI q th sz sd ss pr me ab be pi le sg wo) H) (hS : va_S (A7 q) s.heap H locs) (hl : lv_has ls 6 [(0, .ref (q 0)), (1, .int x1), (2, .int x2), (3, .int x3), (4, .int x4), (5, .int x5)]) : W p l e rX7_set s m args below meth c H locs 0 0 (MQ below (va_Qv (S := Int32 × (Nat → Int32) × (Nat → Int32)) (fun u => post u.1 u.2.1 u.2.2) (fun u t => va_P D vwCl (w7 cI q u.1 sz sd ss pr me u.2.1 u.2.2 pi le sg wo) t.heap) (A7 q)) args s 0 0 (A7 q)) (F0 m 26 ls [.int s1, .ref (q 0)]) := by
  obtain ⟨hx, hb, hr, hml, hown, hg, hlocks, hK, hap⟩ := id C
  unfold wj_X7_set_26 at hw
  refine va_put (D := D) (ci := 7) (v := .int s1) (ty := .int) (C := RX7) (T := TX7) (N := 12) hx hb hg ku_X7 tyX7 tyX7_ok nmX7 hown hK hP (D7 hap) hS 0 rfl rfl 0 (by decide) (hg _ kf_X7_7) (fun _ h9 => h9) rfl (by decide +kernel) rfl rfl (Nat.le_of_ble_eq_true rfl) dX7_set_26 (fun H locs hP _ hS => ?_)
  have hP : va_P D vwCl (w7 cI q s1 sz sd ss pr me ab be pi le sg wo) H := hP
  refine lv_aload_n hx hb dX7_set_29 rfl (lv_at hl 0 rfl) ?_
  refine va_get (D := D) (ci := 7) (v := .int s1) (C := RX7) (T := TX7) (N := 12) hx hb hg ku_X7 hown hK hP 0 rfl rfl 0 (by decide) (hg _ kf_X7_7) (fun _ h9 => h9) rfl dX7_set_30 ?_
  refine lv_if_eq (tgt := 37) hx hb dX7_set_33 (by decide) (fun hc33 => ?_) (fun hc33 => ?_)
  · have hw := hw.1 hc33
    refine lv_aload_n hx hb dX7_set_37 rfl (lv_at hl 0 rfl) ?_
    refine va_get (D := D) (ci := 7) (v := .ref (q 1)) (C := RX7) (T := TX7) (N := 12) hx hb hg ku_X7 hown hK hP 0 rfl rfl 2 (by decide) (hg _ kf_X7_16) (fun _ h9 => h9) rfl dX7_set_38 ?_
    refine lv_iload_n hx hb dX7_set_41 rfl (lv_at hl 1 rfl) ?_
    refine lv_iload_n hx hb dX7_set_42 rfl (lv_at hl 2 rfl) ?_
    refine lv_iload_n hx hb dX7_set_43 rfl (lv_at hl 3 rfl) ?_
    refine va_calli (va_runS (As := [.int x1, .int x2, .int x3]) (rest := [.ref (q 1)]) ⟨hx, hb, hml, hown, hg⟩ (m_X7_at l x1 x2 x3 _ hw) (va_cwS 3 hg (x_gS km_X7_53 ks_X7_at kn_X7 kk_X7_at) rfl rfl rfl (by decide +kernel) ⟨Nat.le_of_ble_eq_true rfl, Nat.le_of_ble_eq_true rfl⟩) pre7S rfl rfl hl.1 rfl (lv_room (Nat.le_of_ble_eq_true rfl)) dX7_set_44 ⟨Nat.zero_le _, Nat.zero_le _⟩) hS (fun _ _ h => h.elim) (fun _ h => h.elim) (fun r_44 u t H1 locs1 ht hvm hw hB hz1 hk1 hS => ?_)
    have hP := hP.kept (fun k9 q9 h9 => hk1 q9.1 ((hP k9 q9 h9).lt) (fun z => z.elim))
    clear hB; generalize H1 = H at hP hS ⊢; generalize locs1 = locs at hS ⊢; try dsimp only at hw
    refine lv_iload hx hb dX7_set_47 (lv_at hl 4 rfl) ?_
    obtain ⟨hi49, hw⟩ := hw
    refine va_iast (D := D) hx hb hK hP (D7 hap) hS 1 0 rfl rfl hi49 dX7_set_49 (fun H locs hP _ hS => ?_)
    have hP : va_P D vwCl (w7 cI q s1 sz sd ss pr me (upd ab (r_44 : Int32).toNatClampNeg x4) be pi le sg wo) H := hP
    refine lv_aload_n hx hb dX7_set_50 rfl (lv_at hl 0 rfl) ?_
    refine va_get (D := D) (ci := 7) (v := .ref (q 2)) (C := RX7) (T := TX7) (N := 12) hx hb hg ku_X7 hown hK hP 0 rfl rfl 3 (by decide) (hg _ kf_X7_20) (fun _ h9 => h9) rfl dX7_set_51 ?_
    refine lv_iload_n hx hb dX7_set_54 rfl (lv_at hl 1 rfl) ?_
    refine lv_iload_n hx hb dX7_set_55 rfl (lv_at hl 2 rfl) ?_
    refine lv_iload_n hx hb dX7_set_56 rfl (lv_at hl 3 rfl) ?_
    refine va_calli (va_runS (As := [.int x1, .int x2, .int x3]) (rest := [.ref (q 2)]) ⟨hx, hb, hml, hown, hg⟩ (m_X7_at l x1 x2 x3 _ hw) (va_cwS 3 hg (x_gS km_X7_53 ks_X7_at kn_X7 kk_X7_at) rfl rfl rfl (by decide +kernel) ⟨Nat.le_of_ble_eq_true rfl, Nat.le_of_ble_eq_true rfl⟩) pre7S rfl rfl hl.1 rfl (lv_room (Nat.le_of_ble_eq_true rfl)) dX7_set_57 ⟨Nat.zero_le _, Nat.zero_le _⟩) hS (fun _ _ h => h.elim) (fun _ h => h.elim) (fun r_57 u t H1 locs1 ht hvm hw hB hz1 hk1 hS => ?_)
    have hP := hP.kept (fun k9 q9 h9 => hk1 q9.1 ((hP k9 q9 h9).lt) (fun z => z.elim))
    clear hB; generalize H1 = H at hP hS ⊢; generalize locs1 = locs at hS ⊢; try dsimp only at hw
    refine lv_iload hx hb dX7_set_60 (lv_at hl 5 rfl) ?_
    obtain ⟨hi62, hw⟩ := hw
    refine va_iast (D := D) hx hb hK hP (D7 hap) hS 2 0 rfl rfl hi62 dX7_set_62 (fun H locs hP _ hS => ?_)
    have hP : va_P D vwCl (w7 cI q s1 sz sd ss pr me (upd ab (r_44 : Int32).toNatClampNeg x4) (upd be (r_57 : Int32).toNatClampNeg x5) pi le sg wo) H := hP
    refine lv_iload_n hx hb dX7_set_63 rfl (lv_at hl 1 rfl) ?_
    refine lv_iconst (v := 1) hx hb dX7_set_64 (by decide) ?_
    refine lv_icmp_eq (tgt := 73) hx hb dX7_set_65 (by decide) (fun hc65 => ?_) (fun hc65 => ?_)
    · have hw := hw.1 hc65
      exact mj_X7_set_73 C sz sd ss pr me pi le sg wo post  _ _ _ _ _ _ _ _ _ _ _ hw hP hS (lv_sub hl [0, 1, 2, 3, 4, 5] rfl)
    · have hw := hw.2 hc65
      refine lv_iload_n hx hb dX7_set_68 rfl (lv_at hl 1 rfl) ?_
      refine lv_iconst (v := 4) hx hb dX7_set_69 (by decide) ?_
      refine lv_icmp_ne (tgt := 99) hx hb dX7_set_70 (by decide) (fun hc70 => ?_) (fun hc70 => ?_)
      · have hw := hw.1 hc70
        exact mj_X7_set_99 C sz sd ss pr me pi le sg wo post  _ _ _ _ _ _ hw hP hS (lv_sub hl [] rfl)
      · have hw := hw.2 hc70
        exact mj_X7_set_73 C sz sd ss pr me pi le sg wo post  _ _ _ _ _ _ _ _ _ _ _ hw hP hS (lv_sub hl [0, 1, 2, 3, 4, 5] rfl)
  · have hw := hw.2 hc33
    exact W.vret hx hb hr (fun t ht hW => ⟨⟨(s1, ab, be), rfl, hw, by show va_P D vwCl _ t.heap; rw [ht]; exact hP⟩, hS.F ht⟩) hS.2.2 dX7_set_36 hlocks
set_option maxHeartbeats 4000000 in
set_option maxRecDepth 100000 in
theorem mj_X7_set_21 (C : C7 p s m args meth c D cI q cX7_set 6 none) (sz : Int32) (sd : Int32) (ss : Int32) (pr : Int32) (me : Int32) (pi : Nat → Int32) (le : Nat → Int32) (sg : Nat → Int32) (wo : Nat → Int32) (post : Int32 → (Nat → Int32) → (Nat → Int32) → Prop) 
    
    (th : Int32) (ab : Nat → Int32) (be : Nat → Int32) (x1 : Int32) (x2 : Int32) (x3 : Int32) (x4 : Int32) (x5 : Int32) (H : Heap) (locs : List Loc) (ls : Array Slot) (hw : wj_X7_set_21 sz post  th ab be x1 x2 x3 x4 x5) (hP : va_P D vwCl (w7 cI q th sz sd ss pr me ab be pi le sg wo) H) (hS : va_S (A7 q) s.heap H locs) (hl : lv_has ls 6 [(0, .ref (q 0)), (1, .int x1), (2, .int x2), (3, .int x3), (4, .int x4), (5, .int x5)]) : W p l e rX7_set s m args below meth c H locs 0 0 (MQ below (va_Qv (S := Int32 × (Nat → Int32) × (Nat → Int32)) (fun u => post u.1 u.2.1 u.2.2) (fun u t => va_P D vwCl (w7 cI q u.1 sz sd ss pr me u.2.1 u.2.2 pi le sg wo) t.heap) (A7 q)) args s 0 0 (A7 q)) (F0 m 21 ls [.ref (q 0)]) := by
  obtain ⟨hx, hb, hr, hml, hown, hg, hlocks, hK, hap⟩ := id C
  unfold wj_X7_set_21 at hw
  refine lv_iconst (v := 1) hx hb dX7_set_21 (by decide) ?_
  refine lv_goto (tgt := 26) hx hb dX7_set_22 (by decide) ?_
  exact mj_X7_set_26 C sz sd ss pr me pi le sg wo post  _ _ _ _ _ _ _ _ _ _ _ _ hw hP hS (lv_sub hl [0, 1, 2, 3, 4, 5] rfl)
set_option maxHeartbeats 4000000 in
set_option maxRecDepth 100000 in
theorem m_X7_set (l : Launch) (D : va_G) (cI : ClassId) (q : Nat → Nat) (th : Int32) (sz : Int32) (sd : Int32) (ss : Int32) (pr : Int32) (me : Int32) (ab : Nat → Int32) (be : Nat → Int32) (pi : Nat → Int32) (le : Nat → Int32) (sg : Nat → Int32) (wo : Nat → Int32) (x1 : Int32) (x2 : Int32) (x3 : Int32) (x4 : Int32) (x5 : Int32) (post : Int32 → (Nat → Int32) → (Nat → Int32) → Prop) (hw : wp_X7_set th sz ab be x1 x2 x3 x4 x5 post) : Met l yX7_set (wu yX7_set cX7_set 6 none) rX7_set (va_Pc [.ref (q 0), .int x1, .int x2, .int x3, .int x4, .int x5] (fun U => va_P D vwCl (w7 cI q th sz sd ss pr me ab be pi le sg wo) U.heap ∧ K7 D cI q U)) (va_Qv (S := Int32 × (Nat → Int32) × (Nat → Int32)) (fun u => post u.1 u.2.1 u.2.2) (fun u t => va_P D vwCl (w7 cI q u.1 sz sd ss pr me u.2.1 u.2.2 pi le sg wo) t.heap) (A7 q)) 0 0 (A7 q) := by
  refine Met.ofW (cc := cX7_set) (maxL := 6) (ret := none) (by decide) rfl ?_
  intro p e s m args below meth c s₁ B hml hv
  obtain ⟨rfl, hP, hK, hap⟩ := hv
  have C : C7 p s m _ meth c D cI q cX7_set 6 none := ⟨B.exec, B.bytes, B.returns, hml, findClass_of_methodNamed B.named, x_hg (atoms_spec (ws := wu yX7_set cX7_set 6 none) B.pre), B.notSynchronized, hK, hap⟩
  obtain ⟨hx, hb, hr, hml, hown, hg, hlocks, hK, hap⟩ := id C
  have hS : va_S (A7 q) s.heap s.heap [] := va_S.rf
  have hl := lv_entry ([.ref (q 0), .int x1, .int x2, .int x3, .int x4, .int x5]) (n := 6) (Nat.le_of_ble_eq_true rfl)
  rw [lg_entry_eq]
  generalize (lg_sl ([.ref (q 0), .int x1, .int x2, .int x3, .int x4, .int x5]) ++ List.replicate (6 - (lg_sl ([.ref (q 0), .int x1, .int x2, .int x3, .int x4, .int x5])).length) Slot.unset).toArray = ls at hl ⊢
  have hl : lv_has ls 6 [(0, .ref (q 0)), (1, .int x1), (2, .int x2), (3, .int x3), (4, .int x4), (5, .int x5)] := hl
  unfold wp_X7_set at hw
  refine lv_aload_n hx hb dX7_set_0 rfl (lv_at hl 0 rfl) ?_
  refine lv_aload_n hx hb dX7_set_1 rfl (lv_at hl 0 rfl) ?_
  refine lv_iload_n hx hb dX7_set_2 rfl (lv_at hl 1 rfl) ?_
  refine lv_iload_n hx hb dX7_set_3 rfl (lv_at hl 2 rfl) ?_
  refine lv_iload_n hx hb dX7_set_4 rfl (lv_at hl 3 rfl) ?_
  refine va_calli (va_runV (As := [.int x1, .int x2, .int x3]) (rest := [.ref (q 0)]) ⟨hx, hb, hml, hown, hg⟩ (m_X7_noModel l D cI q th sz sd ss pr me ab be pi le sg wo x1 x2 x3 _ hw) (cwV 3 hg (x_gV km_X7_136 ki_X7_noModel kz_X7_X7_noModel kn_X7 kk_X7_noModel) rfl rfl rfl (by decide +kernel) ⟨Nat.le_of_ble_eq_true rfl, Nat.le_of_ble_eq_true rfl⟩) (pre7V hP hK hap [.int x1, .int x2, .int x3]) rfl rfl hl.1 rfl (lv_room (Nat.le_of_ble_eq_true rfl)) dX7_set_5 ⟨Nat.zero_le _, Nat.zero_le _⟩) hS (fun _ _ h => h) (fun _ h => h) (fun r_5 u t H locs ht hvm hw hP hz1 hk1 hS => ?_)
  rw [ht] at hP; clear hz1 hk1 ht hvm
  try dsimp only at hw
  try dsimp only at hP
  refine lv_if_ne (tgt := 21) hx hb dX7_set_8 (by decide) (fun hc8 => ?_) (fun hc8 => ?_)
  · have hw := hw.1 hc8
    exact mj_X7_set_21 C sz sd ss pr me pi le sg wo post  _ _ _ _ _ _ _ _ _ _ _ hw hP hS (lv_sub hl [0, 1, 2, 3, 4, 5] rfl)
  · have hw := hw.2 hc8
    refine lv_iload hx hb dX7_set_11 (lv_at hl 4 rfl) ?_
    refine lv_iload hx hb dX7_set_13 (lv_at hl 5 rfl) ?_
    refine va_calli (va_runS (As := [.int x4, .int x5]) (rest := [.ref (q 0)]) ⟨hx, hb, hml, hown, hg⟩ (m_X7_noFraction l x4 x5 _ hw) (va_cwS 2 hg (x_gS km_X7_140 ks_X7_noFraction kn_X7 kk_X7_noFraction) rfl rfl rfl (by decide +kernel) ⟨Nat.le_of_ble_eq_true rfl, Nat.le_of_ble_eq_true rfl⟩) pre7S rfl rfl hl.1 rfl (lv_room (Nat.le_of_ble_eq_true rfl)) dX7_set_15 ⟨Nat.zero_le _, Nat.zero_le _⟩) hS (fun _ _ h => h.elim) (fun _ h => h.elim) (fun r_15 u t H1 locs1 ht hvm hw hB hz1 hk1 hS => ?_)
    have hP := hP.kept (fun k9 q9 h9 => hk1 q9.1 ((hP k9 q9 h9).lt) (fun z => z.elim))
    clear hB; generalize H1 = H at hP hS ⊢; generalize locs1 = locs at hS ⊢; try dsimp only at hw
    refine lv_if_eq (tgt := 25) hx hb dX7_set_18 (by decide) (fun hc18 => ?_) (fun hc18 => ?_)
    · have hw := hw.1 hc18
      refine lv_iconst (v := 0) hx hb dX7_set_25 (by decide) ?_
      exact mj_X7_set_26 C sz sd ss pr me pi le sg wo post  _ _ _ _ _ _ _ _ _ _ _ _ hw hP hS (lv_sub hl [0, 1, 2, 3, 4, 5] rfl)
    · have hw := hw.2 hc18
      exact mj_X7_set_21 C sz sd ss pr me pi le sg wo post  _ _ _ _ _ _ _ _ _ _ _ hw hP hS (lv_sub hl [0, 1, 2, 3, 4, 5] rfl)
-- ===== ExactFilterModel.start
abbrev rX7_start : Room := { frames := 7, cells := 0, slots := 0, locals := 170 }
def wl_X7_start_79 (sz : Int32) (ab : Nat → Int32) (be : Nat → Int32) (post : Int32 → Int32 → Int32 → Int32 → Int32 → (Nat → Int32) → (Nat → Int32) → (Nat → Int32) → (Nat → Int32) → Prop) (K105 : Int32 → Int32 → Int32 → Int32 → Int32 → (Nat → Int32) → (Nat → Int32) → (Nat → Int32) → (Nat → Int32) → Int32 → Prop) : Nat → Int32 → Int32 → Int32 → Int32 → Int32 → (Nat → Int32) → (Nat → Int32) → (Nat → Int32) → (Nat → Int32) → Int32 → Int32 → Prop
  | 0, _, _, _, _, _, _, _, _, _, _, _ => False
  | n + 1, th, sd, ss, pr, me, pi, le, sg, wo, x1, x2 => (sz ≤ x2 → K105 th sd ss pr me pi le sg wo x1) ∧ (¬ sz ≤ x2 → wp_X7_cov  x1 x2 (fun (r_90 : Int32) => wp_X7_model ab be pi le sg wo r_90 1 x1 x2 (fun (pi_96 : Nat → Int32) (le_96 : Nat → Int32) (sg_96 : Nat → Int32) (wo_96 : Nat → Int32) => ∀ (x2_99 : Int32), x2_99 = x2 + 1 → wl_X7_start_79 sz ab be post K105 n th sd ss pr me pi_96 le_96 sg_96 wo_96 x1 x2_99)))
def wl_X7_start_61 (sz : Int32) (ab : Nat → Int32) (be : Nat → Int32) (post : Int32 → Int32 → Int32 → Int32 → Int32 → (Nat → Int32) → (Nat → Int32) → (Nat → Int32) → (Nat → Int32) → Prop) (K111 : Int32 → Int32 → Int32 → Int32 → Int32 → (Nat → Int32) → (Nat → Int32) → (Nat → Int32) → (Nat → Int32) → Prop) : Nat → Int32 → Int32 → Int32 → Int32 → Int32 → (Nat → Int32) → (Nat → Int32) → (Nat → Int32) → (Nat → Int32) → Int32 → Prop
  | 0, _, _, _, _, _, _, _, _, _, _ => False
  | n + 1, th, sd, ss, pr, me, pi, le, sg, wo, x1 => (sz ≤ x1 → K111 th sd ss pr me pi le sg wo) ∧ (¬ sz ≤ x1 → wp_X7_model ab be pi le sg wo x1 0 x1 0 (fun (pi_74 : Nat → Int32) (le_74 : Nat → Int32) (sg_74 : Nat → Int32) (wo_74 : Nat → Int32) => ∃ n79 : Nat, wl_X7_start_79 sz ab be post (fun (th : Int32) (sd : Int32) (ss : Int32) (pr : Int32) (me : Int32) (pi : Nat → Int32) (le : Nat → Int32) (sg : Nat → Int32) (wo : Nat → Int32) (x1 : Int32) => ∀ (x1_105 : Int32), x1_105 = x1 + 1 → wl_X7_start_61 sz ab be post K111 n th sd ss pr me pi le sg wo x1_105) n79 th sd ss pr me pi_74 le_74 sg_74 wo_74 x1 0))
def wj_X7_start_23 (sz : Int32) (ab : Nat → Int32) (be : Nat → Int32) (post : Int32 → Int32 → Int32 → Int32 → Int32 → (Nat → Int32) → (Nat → Int32) → (Nat → Int32) → (Nat → Int32) → Prop)  (th : Int32) (sd : Int32) (ss : Int32) (pr : Int32) (me : Int32) (pi : Nat → Int32) (le : Nat → Int32) (sg : Nat → Int32) (wo : Nat → Int32) (s1 : Int32) : Prop := (s1 = 0 → ∃ n61 : Nat, wl_X7_start_61 sz ab be post (fun (th : Int32) (sd : Int32) (ss : Int32) (pr : Int32) (me : Int32) (pi : Nat → Int32) (le : Nat → Int32) (sg : Nat → Int32) (wo : Nat → Int32) => post th sd ss pr me pi le sg wo) n61 s1 1 (ss + 1) 0 0 pi le sg wo 0) ∧ (¬ s1 = 0 → post s1 sd ss pr me pi le sg wo)
def wj_X7_start_18 (sz : Int32) (ab : Nat → Int32) (be : Nat → Int32) (post : Int32 → Int32 → Int32 → Int32 → Int32 → (Nat → Int32) → (Nat → Int32) → (Nat → Int32) → (Nat → Int32) → Prop)  (th : Int32) (sd : Int32) (ss : Int32) (pr : Int32) (me : Int32) (pi : Nat → Int32) (le : Nat → Int32) (sg : Nat → Int32) (wo : Nat → Int32) : Prop := wj_X7_start_23 sz ab be post  th sd ss pr me pi le sg wo 1
def wp_X7_start (th : Int32) (sz : Int32) (sd : Int32) (ss : Int32) (pr : Int32) (me : Int32) (ab : Nat → Int32) (be : Nat → Int32) (pi : Nat → Int32) (le : Nat → Int32) (sg : Nat → Int32) (wo : Nat → Int32)  (post : Int32 → Int32 → Int32 → Int32 → Int32 → (Nat → Int32) → (Nat → Int32) → (Nat → Int32) → (Nat → Int32) → Prop) : Prop := (ss = 24 → wj_X7_start_18 sz ab be post  th sd ss pr me pi le sg wo) ∧ (¬ ss = 24 → wp_X7_fit sz ab be 1 (fun (r_12 : Int32) => (¬ r_12 = 0 → wj_X7_start_23 sz ab be post  th sd ss pr me pi le sg wo 0) ∧ (r_12 = 0 → wj_X7_start_18 sz ab be post  th sd ss pr me pi le sg wo)))
set_option maxHeartbeats 4000000 in
set_option maxRecDepth 100000 in
theorem ml_X7_start_79 (C : C7 p s m args meth c D cI q cX7_start 3 none) (sz : Int32) (ab : Nat → Int32) (be : Nat → Int32) (post : Int32 → Int32 → Int32 → Int32 → Int32 → (Nat → Int32) → (Nat → Int32) → (Nat → Int32) → (Nat → Int32) → Prop) (K105 : Int32 → Int32 → Int32 → Int32 → Int32 → (Nat → Int32) → (Nat → Int32) → (Nat → Int32) → (Nat → Int32) → Int32 → Prop)
    (hK105 : (∀ (th : Int32) (sd : Int32) (ss : Int32) (pr : Int32) (me : Int32) (pi : Nat → Int32) (le : Nat → Int32) (sg : Nat → Int32) (wo : Nat → Int32) (x1 : Int32) (H : Heap) (locs : List Loc) (ls : Array Slot), K105 th sd ss pr me pi le sg wo x1 → va_P D vwCl (w7 cI q th sz sd ss pr me ab be pi le sg wo) H → va_S (A7 q) s.heap H locs → lv_has ls 3 [(0, .ref (q 0)), (1, .int x1)] → W p l e rX7_start s m args below meth c H locs 0 0 (MQ below (va_Qv (S := Int32 × Int32 × Int32 × Int32 × Int32 × (Nat → Int32) × (Nat → Int32) × (Nat → Int32) × (Nat → Int32)) (fun u => post u.1 u.2.1 u.2.2.1 u.2.2.2.1 u.2.2.2.2.1 u.2.2.2.2.2.1 u.2.2.2.2.2.2.1 u.2.2.2.2.2.2.2.1 u.2.2.2.2.2.2.2.2) (fun u t => va_P D vwCl (w7 cI q u.1 sz u.2.1 u.2.2.1 u.2.2.2.1 u.2.2.2.2.1 ab be u.2.2.2.2.2.1 u.2.2.2.2.2.2.1 u.2.2.2.2.2.2.2.1 u.2.2.2.2.2.2.2.2) t.heap) (A7 q)) args s 0 0 (A7 q)) (F0 m 105 ls []))) :
    ∀ (n : Nat) (th : Int32) (sd : Int32) (ss : Int32) (pr : Int32) (me : Int32) (pi : Nat → Int32) (le : Nat → Int32) (sg : Nat → Int32) (wo : Nat → Int32) (x1 : Int32) (x2 : Int32) (H : Heap) (locs : List Loc) (ls : Array Slot), wl_X7_start_79 sz ab be post K105 n th sd ss pr me pi le sg wo x1 x2 → va_P D vwCl (w7 cI q th sz sd ss pr me ab be pi le sg wo) H → va_S (A7 q) s.heap H locs → lv_has ls 3 [(0, .ref (q 0)), (1, .int x1), (2, .int x2)] → W p l e rX7_start s m args below meth c H locs 0 0 (MQ below (va_Qv (S := Int32 × Int32 × Int32 × Int32 × Int32 × (Nat → Int32) × (Nat → Int32) × (Nat → Int32) × (Nat → Int32)) (fun u => post u.1 u.2.1 u.2.2.1 u.2.2.2.1 u.2.2.2.2.1 u.2.2.2.2.2.1 u.2.2.2.2.2.2.1 u.2.2.2.2.2.2.2.1 u.2.2.2.2.2.2.2.2) (fun u t => va_P D vwCl (w7 cI q u.1 sz u.2.1 u.2.2.1 u.2.2.2.1 u.2.2.2.2.1 ab be u.2.2.2.2.2.1 u.2.2.2.2.2.2.1 u.2.2.2.2.2.2.2.1 u.2.2.2.2.2.2.2.2) t.heap) (A7 q)) args s 0 0 (A7 q)) (F0 m 79 ls []) := by
  obtain ⟨hx, hb, hr, hml, hown, hg, hlocks, hK, hap⟩ := id C
  intro n
  induction n with
  | zero => intro th sd ss pr me pi le sg wo x1 x2 H locs ls hw; exact absurd hw id
  | succ n ih =>
    intro th sd ss pr me pi le sg wo x1 x2 H locs ls hw hP hS hl
    refine lv_iload_n hx hb dX7_start_79 rfl (lv_at hl 2 rfl) ?_
    refine lv_aload_n hx hb dX7_start_80 rfl (lv_at hl 0 rfl) ?_
    refine va_get (D := D) (ci := 7) (v := .int sz) (C := RX7) (T := TX7) (N := 12) hx hb hg ku_X7 hown hK hP 0 rfl rfl 1 (by decide) (hg _ kf_X7_13) (fun _ h9 => h9) rfl dX7_start_81 ?_
    refine lv_icmp_ge (tgt := 105) hx hb dX7_start_84 (by decide) (fun hc84 => ?_) (fun hc84 => ?_)
    · have hw := hw.1 hc84
      exact hK105 _ _ _ _ _ _ _ _ _ _ _ _ _ hw hP hS (lv_sub hl [0, 1] rfl)
    · have hw := hw.2 hc84
      refine lv_aload_n hx hb dX7_start_87 rfl (lv_at hl 0 rfl) ?_
      refine lv_iload_n hx hb dX7_start_88 rfl (lv_at hl 1 rfl) ?_
      refine lv_iload_n hx hb dX7_start_89 rfl (lv_at hl 2 rfl) ?_
      refine va_calli (va_runS (As := [.int x1, .int x2]) (rest := [.ref (q 0)]) ⟨hx, hb, hml, hown, hg⟩ (m_X7_cov l x1 x2 _ hw) (va_cwS 2 hg (x_gS km_X7_121 ks_X7_cov kn_X7 kk_X7_cov) rfl rfl rfl (by decide +kernel) ⟨Nat.le_of_ble_eq_true rfl, Nat.le_of_ble_eq_true rfl⟩) pre7S rfl rfl hl.1 rfl (lv_room (Nat.le_of_ble_eq_true rfl)) dX7_start_90 ⟨Nat.zero_le _, Nat.zero_le _⟩) hS (fun _ _ h => h.elim) (fun _ h => h.elim) (fun r_90 u t H1 locs1 ht hvm hw hB hz1 hk1 hS => ?_)
      have hP := hP.kept (fun k9 q9 h9 => hk1 q9.1 ((hP k9 q9 h9).lt) (fun z => z.elim))
      clear hB; generalize H1 = H at hP hS ⊢; generalize locs1 = locs at hS ⊢; try dsimp only at hw
      refine lv_iconst (v := 1) hx hb dX7_start_93 (by decide) ?_
      refine lv_iload_n hx hb dX7_start_94 rfl (lv_at hl 1 rfl) ?_
      refine lv_iload_n hx hb dX7_start_95 rfl (lv_at hl 2 rfl) ?_
      refine va_callv (va_runV (As := [.int r_90, .int 1, .int x1, .int x2]) (rest := []) ⟨hx, hb, hml, hown, hg⟩ (m_X7_model l D cI q th sz sd ss pr me ab be pi le sg wo r_90 1 x1 x2 _ hw) (cwV 4 hg (x_gV km_X7_117 ki_X7_model kz_X7_X7_model kn_X7 kk_X7_model) rfl rfl rfl (by decide +kernel) ⟨Nat.le_of_ble_eq_true rfl, Nat.le_of_ble_eq_true rfl⟩) (pre7V hP hK hap [.int r_90, .int 1, .int x1, .int x2]) rfl rfl hl.1 rfl (lv_room (Nat.le_of_ble_eq_true rfl)) dX7_start_96 ⟨Nat.zero_le _, Nat.zero_le _⟩) hS (fun _ _ h => h) (fun _ h => h) (fun  u t H locs ht hvm hw hP hz1 hk1 hS => ?_)
      obtain ⟨pi_96, le_96, sg_96, wo_96⟩ := u
      rw [ht] at hP; clear hz1 hk1 ht hvm
      try dsimp only at hw
      try dsimp only at hP
      obtain ⟨x2_99, ex2_99⟩ : ∃ y : Int32, y = x2 + 1 := ⟨_, rfl⟩
      have hw := hw x2_99 ex2_99
      refine lv_iinc (v := x2_99) (lv' := [(2, .int x2_99), (0, .ref (q 0)), (1, .int x1)]) hx hb dX7_start_99 hl (k := 2) rfl (by rw [ex2_99]; rfl) (by decide) rfl (fun ls hl => ?_)
      refine lv_goto (tgt := 79) hx hb dX7_start_102 (by decide) ?_
      exact ih _ _ _ _ _ _ _ _ _ _ _ _ _ _ hw hP hS (lv_sub hl [1, 2, 0] rfl)
set_option maxHeartbeats 4000000 in
set_option maxRecDepth 100000 in
theorem ml_X7_start_61 (C : C7 p s m args meth c D cI q cX7_start 3 none) (sz : Int32) (ab : Nat → Int32) (be : Nat → Int32) (post : Int32 → Int32 → Int32 → Int32 → Int32 → (Nat → Int32) → (Nat → Int32) → (Nat → Int32) → (Nat → Int32) → Prop) (K111 : Int32 → Int32 → Int32 → Int32 → Int32 → (Nat → Int32) → (Nat → Int32) → (Nat → Int32) → (Nat → Int32) → Prop)
    (hK111 : (∀ (th : Int32) (sd : Int32) (ss : Int32) (pr : Int32) (me : Int32) (pi : Nat → Int32) (le : Nat → Int32) (sg : Nat → Int32) (wo : Nat → Int32) (H : Heap) (locs : List Loc) (ls : Array Slot), K111 th sd ss pr me pi le sg wo → va_P D vwCl (w7 cI q th sz sd ss pr me ab be pi le sg wo) H → va_S (A7 q) s.heap H locs → lv_has ls 3 [] → W p l e rX7_start s m args below meth c H locs 0 0 (MQ below (va_Qv (S := Int32 × Int32 × Int32 × Int32 × Int32 × (Nat → Int32) × (Nat → Int32) × (Nat → Int32) × (Nat → Int32)) (fun u => post u.1 u.2.1 u.2.2.1 u.2.2.2.1 u.2.2.2.2.1 u.2.2.2.2.2.1 u.2.2.2.2.2.2.1 u.2.2.2.2.2.2.2.1 u.2.2.2.2.2.2.2.2) (fun u t => va_P D vwCl (w7 cI q u.1 sz u.2.1 u.2.2.1 u.2.2.2.1 u.2.2.2.2.1 ab be u.2.2.2.2.2.1 u.2.2.2.2.2.2.1 u.2.2.2.2.2.2.2.1 u.2.2.2.2.2.2.2.2) t.heap) (A7 q)) args s 0 0 (A7 q)) (F0 m 111 ls []))) :
    ∀ (n : Nat) (th : Int32) (sd : Int32) (ss : Int32) (pr : Int32) (me : Int32) (pi : Nat → Int32) (le : Nat → Int32) (sg : Nat → Int32) (wo : Nat → Int32) (x1 : Int32) (H : Heap) (locs : List Loc) (ls : Array Slot), wl_X7_start_61 sz ab be post K111 n th sd ss pr me pi le sg wo x1 → va_P D vwCl (w7 cI q th sz sd ss pr me ab be pi le sg wo) H → va_S (A7 q) s.heap H locs → lv_has ls 3 [(0, .ref (q 0)), (1, .int x1)] → W p l e rX7_start s m args below meth c H locs 0 0 (MQ below (va_Qv (S := Int32 × Int32 × Int32 × Int32 × Int32 × (Nat → Int32) × (Nat → Int32) × (Nat → Int32) × (Nat → Int32)) (fun u => post u.1 u.2.1 u.2.2.1 u.2.2.2.1 u.2.2.2.2.1 u.2.2.2.2.2.1 u.2.2.2.2.2.2.1 u.2.2.2.2.2.2.2.1 u.2.2.2.2.2.2.2.2) (fun u t => va_P D vwCl (w7 cI q u.1 sz u.2.1 u.2.2.1 u.2.2.2.1 u.2.2.2.2.1 ab be u.2.2.2.2.2.1 u.2.2.2.2.2.2.1 u.2.2.2.2.2.2.2.1 u.2.2.2.2.2.2.2.2) t.heap) (A7 q)) args s 0 0 (A7 q)) (F0 m 61 ls []) := by
  obtain ⟨hx, hb, hr, hml, hown, hg, hlocks, hK, hap⟩ := id C
  intro n
  induction n with
  | zero => intro th sd ss pr me pi le sg wo x1 H locs ls hw; exact absurd hw id
  | succ n ih =>
    intro th sd ss pr me pi le sg wo x1 H locs ls hw hP hS hl
    refine lv_iload_n hx hb dX7_start_61 rfl (lv_at hl 1 rfl) ?_
    refine lv_aload_n hx hb dX7_start_62 rfl (lv_at hl 0 rfl) ?_
    refine va_get (D := D) (ci := 7) (v := .int sz) (C := RX7) (T := TX7) (N := 12) hx hb hg ku_X7 hown hK hP 0 rfl rfl 1 (by decide) (hg _ kf_X7_13) (fun _ h9 => h9) rfl dX7_start_63 ?_
    refine lv_icmp_ge (tgt := 111) hx hb dX7_start_66 (by decide) (fun hc66 => ?_) (fun hc66 => ?_)
    · have hw := hw.1 hc66
      exact hK111 _ _ _ _ _ _ _ _ _ _ _ _ hw hP hS (lv_sub hl [] rfl)
    · have hw := hw.2 hc66
      refine lv_aload_n hx hb dX7_start_69 rfl (lv_at hl 0 rfl) ?_
      refine lv_iload_n hx hb dX7_start_70 rfl (lv_at hl 1 rfl) ?_
      refine lv_iconst (v := 0) hx hb dX7_start_71 (by decide) ?_
      refine lv_iload_n hx hb dX7_start_72 rfl (lv_at hl 1 rfl) ?_
      refine lv_iconst (v := 0) hx hb dX7_start_73 (by decide) ?_
      refine va_callv (va_runV (As := [.int x1, .int 0, .int x1, .int 0]) (rest := []) ⟨hx, hb, hml, hown, hg⟩ (m_X7_model l D cI q th sz sd ss pr me ab be pi le sg wo x1 0 x1 0 _ hw) (cwV 4 hg (x_gV km_X7_117 ki_X7_model kz_X7_X7_model kn_X7 kk_X7_model) rfl rfl rfl (by decide +kernel) ⟨Nat.le_of_ble_eq_true rfl, Nat.le_of_ble_eq_true rfl⟩) (pre7V hP hK hap [.int x1, .int 0, .int x1, .int 0]) rfl rfl hl.1 rfl (lv_room (Nat.le_of_ble_eq_true rfl)) dX7_start_74 ⟨Nat.zero_le _, Nat.zero_le _⟩) hS (fun _ _ h => h) (fun _ h => h) (fun  u t H locs ht hvm hw hP hz1 hk1 hS => ?_)
      obtain ⟨pi_74, le_74, sg_74, wo_74⟩ := u
      rw [ht] at hP; clear hz1 hk1 ht hvm
      try dsimp only at hw
      try dsimp only at hP
      refine lv_iconst (v := 0) hx hb dX7_start_77 (by decide) ?_
      refine lv_istore_n (lv' := [(2, .int 0), (0, .ref (q 0)), (1, .int x1)]) hx hb dX7_start_78 rfl hl (by decide) rfl (fun ls hl => ?_)
      obtain ⟨n79, hw⟩ := hw
      refine ml_X7_start_79 C sz ab be post _ ?_ n79 _ _ _ _ _ _ _ _ _ _ _ _ _ _ hw hP hS (lv_sub hl [1, 2, 0] rfl)
      · intro th sd ss pr me pi le sg wo x1 H locs ls hw hP hS hl
        obtain ⟨x1_105, ex1_105⟩ : ∃ y : Int32, y = x1 + 1 := ⟨_, rfl⟩
        have hw := hw x1_105 ex1_105
        refine lv_iinc (v := x1_105) (lv' := [(1, .int x1_105), (0, .ref (q 0))]) hx hb dX7_start_105 hl (k := 1) rfl (by rw [ex1_105]; rfl) (by decide) rfl (fun ls hl => ?_)
        refine lv_goto (tgt := 61) hx hb dX7_start_108 (by decide) ?_
        exact ih _ _ _ _ _ _ _ _ _ _ _ _ _ hw hP hS (lv_sub hl [1, 0] rfl)
set_option maxHeartbeats 4000000 in
set_option maxRecDepth 100000 in
theorem mj_X7_start_23 (C : C7 p s m args meth c D cI q cX7_start 3 none) (sz : Int32) (ab : Nat → Int32) (be : Nat → Int32) (post : Int32 → Int32 → Int32 → Int32 → Int32 → (Nat → Int32) → (Nat → Int32) → (Nat → Int32) → (Nat → Int32) → Prop) 
    
    (th : Int32) (sd : Int32) (ss : Int32) (pr : Int32) (me : Int32) (pi : Nat → Int32) (le : Nat → Int32) (sg : Nat → Int32) (wo : Nat → Int32) (s1 : Int32) (H : Heap) (locs : List Loc) (ls : Array Slot) (hw : wj_X7_start_23 sz ab be post  th sd ss pr me pi le sg wo s1) (hP : va_P D vwCl (w7 cI q th sz sd ss pr me ab be pi le sg wo) H) (hS : va_S (A7 q) s.heap H locs) (hl : lv_has ls 3 [(0, .ref (q 0))]) : W p l e rX7_start s m args below meth c H locs 0 0 (MQ below (va_Qv (S := Int32 × Int32 × Int32 × Int32 × Int32 × (Nat → Int32) × (Nat → Int32) × (Nat → Int32) × (Nat → Int32)) (fun u => post u.1 u.2.1 u.2.2.1 u.2.2.2.1 u.2.2.2.2.1 u.2.2.2.2.2.1 u.2.2.2.2.2.2.1 u.2.2.2.2.2.2.2.1 u.2.2.2.2.2.2.2.2) (fun u t => va_P D vwCl (w7 cI q u.1 sz u.2.1 u.2.2.1 u.2.2.2.1 u.2.2.2.2.1 ab be u.2.2.2.2.2.1 u.2.2.2.2.2.2.1 u.2.2.2.2.2.2.2.1 u.2.2.2.2.2.2.2.2) t.heap) (A7 q)) args s 0 0 (A7 q)) (F0 m 23 ls [.int s1, .ref (q 0)]) := by
  obtain ⟨hx, hb, hr, hml, hown, hg, hlocks, hK, hap⟩ := id C
  unfold wj_X7_start_23 at hw
  refine va_put (D := D) (ci := 7) (v := .int s1) (ty := .int) (C := RX7) (T := TX7) (N := 12) hx hb hg ku_X7 tyX7 tyX7_ok nmX7 hown hK hP (D7 hap) hS 0 rfl rfl 0 (by decide) (hg _ kf_X7_7) (fun _ h9 => h9) rfl (by decide +kernel) rfl rfl (Nat.le_of_ble_eq_true rfl) dX7_start_23 (fun H locs hP _ hS => ?_)
  have hP : va_P D vwCl (w7 cI q s1 sz sd ss pr me ab be pi le sg wo) H := hP
  refine lv_aload_n hx hb dX7_start_26 rfl (lv_at hl 0 rfl) ?_
  refine va_get (D := D) (ci := 7) (v := .int s1) (C := RX7) (T := TX7) (N := 12) hx hb hg ku_X7 hown hK hP 0 rfl rfl 0 (by decide) (hg _ kf_X7_7) (fun _ h9 => h9) rfl dX7_start_27 ?_
  refine lv_if_eq (tgt := 34) hx hb dX7_start_30 (by decide) (fun hc30 => ?_) (fun hc30 => ?_)
  · have hw := hw.1 hc30
    refine lv_aload_n hx hb dX7_start_34 rfl (lv_at hl 0 rfl) ?_
    refine lv_dup hx hb dX7_start_35 rfl ?_
    refine va_get (D := D) (ci := 7) (v := .int ss) (C := RX7) (T := TX7) (N := 12) hx hb hg ku_X7 hown hK hP 0 rfl rfl 5 (by decide) (hg _ kf_X7_27) (fun _ h9 => h9) rfl dX7_start_36 ?_
    refine lv_iconst (v := 1) hx hb dX7_start_39 (by decide) ?_
    refine lv_iadd hx hb dX7_start_40 ?_
    refine va_put (D := D) (ci := 7) (v := .int (ss + 1)) (ty := .int) (C := RX7) (T := TX7) (N := 12) hx hb hg ku_X7 tyX7 tyX7_ok nmX7 hown hK hP (D7 hap) hS 0 rfl rfl 5 (by decide) (hg _ kf_X7_27) (fun _ h9 => h9) rfl (by decide +kernel) rfl rfl (Nat.le_of_ble_eq_true rfl) dX7_start_41 (fun H locs hP _ hS => ?_)
    have hP : va_P D vwCl (w7 cI q s1 sz sd (ss + 1) pr me ab be pi le sg wo) H := hP
    refine lv_aload_n hx hb dX7_start_44 rfl (lv_at hl 0 rfl) ?_
    refine lv_iconst (v := 1) hx hb dX7_start_45 (by decide) ?_
    refine va_put (D := D) (ci := 7) (v := .int 1) (ty := .boolean) (C := RX7) (T := TX7) (N := 12) hx hb hg ku_X7 tyX7 tyX7_ok nmX7 hown hK hP (D7 hap) hS 0 rfl rfl 4 (by decide) (hg _ kf_X7_23) (fun _ h9 => h9) rfl (by decide +kernel) rfl rfl (Nat.le_of_ble_eq_true rfl) dX7_start_46 (fun H locs hP _ hS => ?_)
    have hP : va_P D vwCl (w7 cI q s1 sz 1 (ss + 1) pr me ab be pi le sg wo) H := hP
    refine lv_aload_n hx hb dX7_start_49 rfl (lv_at hl 0 rfl) ?_
    refine lv_iconst (v := 0) hx hb dX7_start_50 (by decide) ?_
    refine va_put (D := D) (ci := 7) (v := .int 0) (ty := .int) (C := RX7) (T := TX7) (N := 12) hx hb hg ku_X7 tyX7 tyX7_ok nmX7 hown hK hP (D7 hap) hS 0 rfl rfl 6 (by decide) (hg _ kf_X7_30) (fun _ h9 => h9) rfl (by decide +kernel) rfl rfl (Nat.le_of_ble_eq_true rfl) dX7_start_51 (fun H locs hP _ hS => ?_)
    have hP : va_P D vwCl (w7 cI q s1 sz 1 (ss + 1) 0 me ab be pi le sg wo) H := hP
    refine lv_aload_n hx hb dX7_start_54 rfl (lv_at hl 0 rfl) ?_
    refine lv_iconst (v := 0) hx hb dX7_start_55 (by decide) ?_
    refine va_put (D := D) (ci := 7) (v := .int 0) (ty := .int) (C := RX7) (T := TX7) (N := 12) hx hb hg ku_X7 tyX7 tyX7_ok nmX7 hown hK hP (D7 hap) hS 0 rfl rfl 7 (by decide) (hg _ kf_X7_33) (fun _ h9 => h9) rfl (by decide +kernel) rfl rfl (Nat.le_of_ble_eq_true rfl) dX7_start_56 (fun H locs hP _ hS => ?_)
    have hP : va_P D vwCl (w7 cI q s1 sz 1 (ss + 1) 0 0 ab be pi le sg wo) H := hP
    refine lv_iconst (v := 0) hx hb dX7_start_59 (by decide) ?_
    refine lv_istore_n (lv' := [(1, .int 0), (0, .ref (q 0))]) hx hb dX7_start_60 rfl hl (by decide) rfl (fun ls hl => ?_)
    obtain ⟨n61, hw⟩ := hw
    refine ml_X7_start_61 C sz ab be post _ ?_ n61 _ _ _ _ _ _ _ _ _ _ _ _ _ hw hP hS (lv_sub hl [1, 0] rfl)
    · intro th sd ss pr me pi le sg wo H locs ls hw hP hS hl
      exact W.vret hx hb hr (fun t ht hW => ⟨⟨(th, sd, ss, pr, me, pi, le, sg, wo), rfl, hw, by show va_P D vwCl _ t.heap; rw [ht]; exact hP⟩, hS.F ht⟩) hS.2.2 dX7_start_111 hlocks
  · have hw := hw.2 hc30
    exact W.vret hx hb hr (fun t ht hW => ⟨⟨(s1, sd, ss, pr, me, pi, le, sg, wo), rfl, hw, by show va_P D vwCl _ t.heap; rw [ht]; exact hP⟩, hS.F ht⟩) hS.2.2 dX7_start_33 hlocks
set_option maxHeartbeats 4000000 in
set_option maxRecDepth 100000 in
theorem mj_X7_start_18 (C : C7 p s m args meth c D cI q cX7_start 3 none) (sz : Int32) (ab : Nat → Int32) (be : Nat → Int32) (post : Int32 → Int32 → Int32 → Int32 → Int32 → (Nat → Int32) → (Nat → Int32) → (Nat → Int32) → (Nat → Int32) → Prop) 
    
    (th : Int32) (sd : Int32) (ss : Int32) (pr : Int32) (me : Int32) (pi : Nat → Int32) (le : Nat → Int32) (sg : Nat → Int32) (wo : Nat → Int32) (H : Heap) (locs : List Loc) (ls : Array Slot) (hw : wj_X7_start_18 sz ab be post  th sd ss pr me pi le sg wo) (hP : va_P D vwCl (w7 cI q th sz sd ss pr me ab be pi le sg wo) H) (hS : va_S (A7 q) s.heap H locs) (hl : lv_has ls 3 [(0, .ref (q 0))]) : W p l e rX7_start s m args below meth c H locs 0 0 (MQ below (va_Qv (S := Int32 × Int32 × Int32 × Int32 × Int32 × (Nat → Int32) × (Nat → Int32) × (Nat → Int32) × (Nat → Int32)) (fun u => post u.1 u.2.1 u.2.2.1 u.2.2.2.1 u.2.2.2.2.1 u.2.2.2.2.2.1 u.2.2.2.2.2.2.1 u.2.2.2.2.2.2.2.1 u.2.2.2.2.2.2.2.2) (fun u t => va_P D vwCl (w7 cI q u.1 sz u.2.1 u.2.2.1 u.2.2.2.1 u.2.2.2.2.1 ab be u.2.2.2.2.2.1 u.2.2.2.2.2.2.1 u.2.2.2.2.2.2.2.1 u.2.2.2.2.2.2.2.2) t.heap) (A7 q)) args s 0 0 (A7 q)) (F0 m 18 ls [.ref (q 0)]) := by
  obtain ⟨hx, hb, hr, hml, hown, hg, hlocks, hK, hap⟩ := id C
  unfold wj_X7_start_18 at hw
  refine lv_iconst (v := 1) hx hb dX7_start_18 (by decide) ?_
  refine lv_goto (tgt := 23) hx hb dX7_start_19 (by decide) ?_
  exact mj_X7_start_23 C sz ab be post  _ _ _ _ _ _ _ _ _ _ _ _ _ hw hP hS (lv_sub hl [0] rfl)
set_option maxHeartbeats 4000000 in
set_option maxRecDepth 100000 in
theorem m_X7_start (l : Launch) (D : va_G) (cI : ClassId) (q : Nat → Nat) (th : Int32) (sz : Int32) (sd : Int32) (ss : Int32) (pr : Int32) (me : Int32) (ab : Nat → Int32) (be : Nat → Int32) (pi : Nat → Int32) (le : Nat → Int32) (sg : Nat → Int32) (wo : Nat → Int32)  (post : Int32 → Int32 → Int32 → Int32 → Int32 → (Nat → Int32) → (Nat → Int32) → (Nat → Int32) → (Nat → Int32) → Prop) (hw : wp_X7_start th sz sd ss pr me ab be pi le sg wo  post) : Met l yX7_start (wu yX7_start cX7_start 3 none) rX7_start (va_Pc [.ref (q 0)] (fun U => va_P D vwCl (w7 cI q th sz sd ss pr me ab be pi le sg wo) U.heap ∧ K7 D cI q U)) (va_Qv (S := Int32 × Int32 × Int32 × Int32 × Int32 × (Nat → Int32) × (Nat → Int32) × (Nat → Int32) × (Nat → Int32)) (fun u => post u.1 u.2.1 u.2.2.1 u.2.2.2.1 u.2.2.2.2.1 u.2.2.2.2.2.1 u.2.2.2.2.2.2.1 u.2.2.2.2.2.2.2.1 u.2.2.2.2.2.2.2.2) (fun u t => va_P D vwCl (w7 cI q u.1 sz u.2.1 u.2.2.1 u.2.2.2.1 u.2.2.2.2.1 ab be u.2.2.2.2.2.1 u.2.2.2.2.2.2.1 u.2.2.2.2.2.2.2.1 u.2.2.2.2.2.2.2.2) t.heap) (A7 q)) 0 0 (A7 q) := by
  refine Met.ofW (cc := cX7_start) (maxL := 3) (ret := none) (by decide) rfl ?_
  intro p e s m args below meth c s₁ B hml hv
  obtain ⟨rfl, hP, hK, hap⟩ := hv
  have C : C7 p s m _ meth c D cI q cX7_start 3 none := ⟨B.exec, B.bytes, B.returns, hml, findClass_of_methodNamed B.named, x_hg (atoms_spec (ws := wu yX7_start cX7_start 3 none) B.pre), B.notSynchronized, hK, hap⟩
  obtain ⟨hx, hb, hr, hml, hown, hg, hlocks, hK, hap⟩ := id C
  have hS : va_S (A7 q) s.heap s.heap [] := va_S.rf
  have hl := lv_entry ([.ref (q 0)]) (n := 3) (Nat.le_of_ble_eq_true rfl)
  rw [lg_entry_eq]
  generalize (lg_sl ([.ref (q 0)]) ++ List.replicate (3 - (lg_sl ([.ref (q 0)])).length) Slot.unset).toArray = ls at hl ⊢
  have hl : lv_has ls 3 [(0, .ref (q 0))] := hl
  unfold wp_X7_start at hw
  refine lv_aload_n hx hb dX7_start_0 rfl (lv_at hl 0 rfl) ?_
  refine lv_aload_n hx hb dX7_start_1 rfl (lv_at hl 0 rfl) ?_
  refine va_get (D := D) (ci := 7) (v := .int ss) (C := RX7) (T := TX7) (N := 12) hx hb hg ku_X7 hown hK hP 0 rfl rfl 5 (by decide) (hg _ kf_X7_27) (fun _ h9 => h9) rfl dX7_start_2 ?_
  refine lv_bipush (v := 24) hx hb dX7_start_5 (by decide) ?_
  refine lv_icmp_eq (tgt := 18) hx hb dX7_start_7 (by decide) (fun hc7 => ?_) (fun hc7 => ?_)
  · have hw := hw.1 hc7
    exact mj_X7_start_18 C sz ab be post  _ _ _ _ _ _ _ _ _ _ _ _ hw hP hS (lv_sub hl [0] rfl)
  · have hw := hw.2 hc7
    refine lv_aload_n hx hb dX7_start_10 rfl (lv_at hl 0 rfl) ?_
    refine lv_iconst (v := 1) hx hb dX7_start_11 (by decide) ?_
    refine va_calli (va_runV (As := [.int 1]) (rest := [.ref (q 0)]) ⟨hx, hb, hml, hown, hg⟩ (m_X7_fit l D cI q th sz sd ss pr me ab be pi le sg wo 1 _ hw) (cwV 1 hg (x_gV km_X7_144 ki_X7_fit kz_X7_X7_fit kn_X7 kk_X7_fit) rfl rfl rfl (by decide +kernel) ⟨Nat.le_of_ble_eq_true rfl, Nat.le_of_ble_eq_true rfl⟩) (pre7V hP hK hap [.int 1]) rfl rfl hl.1 rfl (lv_room (Nat.le_of_ble_eq_true rfl)) dX7_start_12 ⟨Nat.zero_le _, Nat.zero_le _⟩) hS (fun _ _ h => h) (fun _ h => h) (fun r_12 u t H locs ht hvm hw hP hz1 hk1 hS => ?_)
    rw [ht] at hP; clear hz1 hk1 ht hvm
    try dsimp only at hw
    try dsimp only at hP
    refine lv_if_ne (tgt := 22) hx hb dX7_start_15 (by decide) (fun hc15 => ?_) (fun hc15 => ?_)
    · have hw := hw.1 hc15
      refine lv_iconst (v := 0) hx hb dX7_start_22 (by decide) ?_
      exact mj_X7_start_23 C sz ab be post  _ _ _ _ _ _ _ _ _ _ _ _ _ hw hP hS (lv_sub hl [0] rfl)
    · have hw := hw.2 hc15
      exact mj_X7_start_18 C sz ab be post  _ _ _ _ _ _ _ _ _ _ _ _ hw hP hS (lv_sub hl [0] rfl)
-- ===== ExactFilterModel.predict
abbrev rX7_predict : Room := { frames := 8, cells := 0, slots := 0, locals := 193 }
def wj_X7_predict_29 (sz : Int32) (sd : Int32) (ab : Nat → Int32) (be : Nat → Int32) (post : Int32 → Int32 → Int32 → (Nat → Int32) → (Nat → Int32) → (Nat → Int32) → (Nat → Int32) → Prop)  (th : Int32) (pr : Int32) (pi : Nat → Int32) (le : Nat → Int32) (sg : Nat → Int32) (wo : Nat → Int32) (s1 : Int32) : Prop := (s1 = 0 → wp_X7_doPredict sz ab be pi le sg wo  (fun (pi_42 : Nat → Int32) (le_42 : Nat → Int32) (sg_42 : Nat → Int32) (wo_42 : Nat → Int32) => post (pr + 1) s1 (pr + 1) pi_42 le_42 sg_42 wo_42)) ∧ (¬ s1 = 0 → post 0 s1 pr pi le sg wo)
def wj_X7_predict_24 (sz : Int32) (sd : Int32) (ab : Nat → Int32) (be : Nat → Int32) (post : Int32 → Int32 → Int32 → (Nat → Int32) → (Nat → Int32) → (Nat → Int32) → (Nat → Int32) → Prop)  (th : Int32) (pr : Int32) (pi : Nat → Int32) (le : Nat → Int32) (sg : Nat → Int32) (wo : Nat → Int32) : Prop := wj_X7_predict_29 sz sd ab be post  th pr pi le sg wo 1
def wp_X7_predict (th : Int32) (sz : Int32) (sd : Int32) (pr : Int32) (ab : Nat → Int32) (be : Nat → Int32) (pi : Nat → Int32) (le : Nat → Int32) (sg : Nat → Int32) (wo : Nat → Int32)  (post : Int32 → Int32 → Int32 → (Nat → Int32) → (Nat → Int32) → (Nat → Int32) → (Nat → Int32) → Prop) : Prop := (sd = 0 → wj_X7_predict_24 sz sd ab be post  th pr pi le sg wo) ∧ (¬ sd = 0 → wp_X7_fit sz ab be 4 (fun (r_10 : Int32) => (r_10 = 0 → wj_X7_predict_24 sz sd ab be post  th pr pi le sg wo) ∧ (¬ r_10 = 0 → (¬ pr = 4 → wj_X7_predict_29 sz sd ab be post  th pr pi le sg wo 0) ∧ (pr = 4 → wj_X7_predict_24 sz sd ab be post  th pr pi le sg wo))))
set_option maxHeartbeats 4000000 in
set_option maxRecDepth 100000 in
theorem mj_X7_predict_29 (C : C7 p s m args meth c D cI q cX7_predict 1 (some .int)) (sz : Int32) (sd : Int32) (ss : Int32) (me : Int32) (ab : Nat → Int32) (be : Nat → Int32) (post : Int32 → Int32 → Int32 → (Nat → Int32) → (Nat → Int32) → (Nat → Int32) → (Nat → Int32) → Prop) 
    
    (th : Int32) (pr : Int32) (pi : Nat → Int32) (le : Nat → Int32) (sg : Nat → Int32) (wo : Nat → Int32) (s1 : Int32) (H : Heap) (locs : List Loc) (ls : Array Slot) (hw : wj_X7_predict_29 sz sd ab be post  th pr pi le sg wo s1) (hP : va_P D vwCl (w7 cI q th sz sd ss pr me ab be pi le sg wo) H) (hS : va_S (A7 q) s.heap H locs) (hl : lv_has ls 1 [(0, .ref (q 0))]) : W p l e rX7_predict s m args below meth c H locs 0 0 (MQ below (va_Qi (S := Int32 × Int32 × (Nat → Int32) × (Nat → Int32) × (Nat → Int32) × (Nat → Int32)) (fun r u => post r u.1 u.2.1 u.2.2.1 u.2.2.2.1 u.2.2.2.2.1 u.2.2.2.2.2) (fun u t => va_P D vwCl (w7 cI q u.1 sz sd ss u.2.1 me ab be u.2.2.1 u.2.2.2.1 u.2.2.2.2.1 u.2.2.2.2.2) t.heap) (A7 q)) args s 0 0 (A7 q)) (F0 m 29 ls [.int s1, .ref (q 0)]) := by
  obtain ⟨hx, hb, hr, hml, hown, hg, hlocks, hK, hap⟩ := id C
  unfold wj_X7_predict_29 at hw
  refine va_put (D := D) (ci := 7) (v := .int s1) (ty := .int) (C := RX7) (T := TX7) (N := 12) hx hb hg ku_X7 tyX7 tyX7_ok nmX7 hown hK hP (D7 hap) hS 0 rfl rfl 0 (by decide) (hg _ kf_X7_7) (fun _ h9 => h9) rfl (by decide +kernel) rfl rfl (Nat.le_of_ble_eq_true rfl) dX7_predict_29 (fun H locs hP _ hS => ?_)
  have hP : va_P D vwCl (w7 cI q s1 sz sd ss pr me ab be pi le sg wo) H := hP
  refine lv_aload_n hx hb dX7_predict_32 rfl (lv_at hl 0 rfl) ?_
  refine va_get (D := D) (ci := 7) (v := .int s1) (C := RX7) (T := TX7) (N := 12) hx hb hg ku_X7 hown hK hP 0 rfl rfl 0 (by decide) (hg _ kf_X7_7) (fun _ h9 => h9) rfl dX7_predict_33 ?_
  refine lv_if_eq (tgt := 41) hx hb dX7_predict_36 (by decide) (fun hc36 => ?_) (fun hc36 => ?_)
  · have hw := hw.1 hc36
    refine lv_aload_n hx hb dX7_predict_41 rfl (lv_at hl 0 rfl) ?_
    refine va_callv (va_runV (As := []) (rest := []) ⟨hx, hb, hml, hown, hg⟩ (m_X7_doPredict l D cI q s1 sz sd ss pr me ab be pi le sg wo  _ hw) (cwV 0 hg (x_gV km_X7_148 ki_X7_doPredict kz_X7_X7_doPredict kn_X7 kk_X7_doPredict) rfl rfl rfl (by decide +kernel) ⟨Nat.le_of_ble_eq_true rfl, Nat.le_of_ble_eq_true rfl⟩) (pre7V hP hK hap []) rfl rfl hl.1 rfl (lv_room (Nat.le_of_ble_eq_true rfl)) dX7_predict_42 ⟨Nat.zero_le _, Nat.zero_le _⟩) hS (fun _ _ h => h) (fun _ h => h) (fun  u t H locs ht hvm hw hP hz1 hk1 hS => ?_)
    obtain ⟨pi_42, le_42, sg_42, wo_42⟩ := u
    rw [ht] at hP; clear hz1 hk1 ht hvm
    try dsimp only at hw
    try dsimp only at hP
    refine lv_aload_n hx hb dX7_predict_45 rfl (lv_at hl 0 rfl) ?_
    refine lv_dup hx hb dX7_predict_46 rfl ?_
    refine va_get (D := D) (ci := 7) (v := .int pr) (C := RX7) (T := TX7) (N := 12) hx hb hg ku_X7 hown hK hP 0 rfl rfl 6 (by decide) (hg _ kf_X7_30) (fun _ h9 => h9) rfl dX7_predict_47 ?_
    refine lv_iconst (v := 1) hx hb dX7_predict_50 (by decide) ?_
    refine lv_iadd hx hb dX7_predict_51 ?_
    refine va_put (D := D) (ci := 7) (v := .int (pr + 1)) (ty := .int) (C := RX7) (T := TX7) (N := 12) hx hb hg ku_X7 tyX7 tyX7_ok nmX7 hown hK hP (D7 hap) hS 0 rfl rfl 6 (by decide) (hg _ kf_X7_30) (fun _ h9 => h9) rfl (by decide +kernel) rfl rfl (Nat.le_of_ble_eq_true rfl) dX7_predict_52 (fun H locs hP _ hS => ?_)
    have hP : va_P D vwCl (w7 cI q s1 sz sd ss (pr + 1) me ab be pi_42 le_42 sg_42 wo_42) H := hP
    refine lv_aload_n hx hb dX7_predict_55 rfl (lv_at hl 0 rfl) ?_
    refine va_get (D := D) (ci := 7) (v := .int (pr + 1)) (C := RX7) (T := TX7) (N := 12) hx hb hg ku_X7 hown hK hP 0 rfl rfl 6 (by decide) (hg _ kf_X7_30) (fun _ h9 => h9) rfl dX7_predict_56 ?_
    exact W.iret (v := (pr + 1)) hx hb hr (fun t ht hW => ⟨⟨(pr + 1), (s1, (pr + 1), pi_42, le_42, sg_42, wo_42), rfl, hw, by show va_P D vwCl _ t.heap; rw [ht]; exact hP⟩, hS.F ht⟩) hS.2.2 dX7_predict_59 hlocks
  · have hw := hw.2 hc36
    refine lv_iconst (v := 0) hx hb dX7_predict_39 (by decide) ?_
    exact W.iret (v := 0) hx hb hr (fun t ht hW => ⟨⟨0, (s1, pr, pi, le, sg, wo), rfl, hw, by show va_P D vwCl _ t.heap; rw [ht]; exact hP⟩, hS.F ht⟩) hS.2.2 dX7_predict_40 hlocks
set_option maxHeartbeats 4000000 in
set_option maxRecDepth 100000 in
theorem mj_X7_predict_24 (C : C7 p s m args meth c D cI q cX7_predict 1 (some .int)) (sz : Int32) (sd : Int32) (ss : Int32) (me : Int32) (ab : Nat → Int32) (be : Nat → Int32) (post : Int32 → Int32 → Int32 → (Nat → Int32) → (Nat → Int32) → (Nat → Int32) → (Nat → Int32) → Prop) 
    
    (th : Int32) (pr : Int32) (pi : Nat → Int32) (le : Nat → Int32) (sg : Nat → Int32) (wo : Nat → Int32) (H : Heap) (locs : List Loc) (ls : Array Slot) (hw : wj_X7_predict_24 sz sd ab be post  th pr pi le sg wo) (hP : va_P D vwCl (w7 cI q th sz sd ss pr me ab be pi le sg wo) H) (hS : va_S (A7 q) s.heap H locs) (hl : lv_has ls 1 [(0, .ref (q 0))]) : W p l e rX7_predict s m args below meth c H locs 0 0 (MQ below (va_Qi (S := Int32 × Int32 × (Nat → Int32) × (Nat → Int32) × (Nat → Int32) × (Nat → Int32)) (fun r u => post r u.1 u.2.1 u.2.2.1 u.2.2.2.1 u.2.2.2.2.1 u.2.2.2.2.2) (fun u t => va_P D vwCl (w7 cI q u.1 sz sd ss u.2.1 me ab be u.2.2.1 u.2.2.2.1 u.2.2.2.2.1 u.2.2.2.2.2) t.heap) (A7 q)) args s 0 0 (A7 q)) (F0 m 24 ls [.ref (q 0)]) := by
  obtain ⟨hx, hb, hr, hml, hown, hg, hlocks, hK, hap⟩ := id C
  unfold wj_X7_predict_24 at hw
  refine lv_iconst (v := 1) hx hb dX7_predict_24 (by decide) ?_
  refine lv_goto (tgt := 29) hx hb dX7_predict_25 (by decide) ?_
  exact mj_X7_predict_29 C sz sd ss me ab be post  _ _ _ _ _ _ _ _ _ _ hw hP hS (lv_sub hl [0] rfl)
set_option maxHeartbeats 4000000 in
set_option maxRecDepth 100000 in
theorem m_X7_predict (l : Launch) (D : va_G) (cI : ClassId) (q : Nat → Nat) (th : Int32) (sz : Int32) (sd : Int32) (ss : Int32) (pr : Int32) (me : Int32) (ab : Nat → Int32) (be : Nat → Int32) (pi : Nat → Int32) (le : Nat → Int32) (sg : Nat → Int32) (wo : Nat → Int32)  (post : Int32 → Int32 → Int32 → (Nat → Int32) → (Nat → Int32) → (Nat → Int32) → (Nat → Int32) → Prop) (hw : wp_X7_predict th sz sd pr ab be pi le sg wo  post) : Met l yX7_predict (wu yX7_predict cX7_predict 1 (some .int)) rX7_predict (va_Pc [.ref (q 0)] (fun U => va_P D vwCl (w7 cI q th sz sd ss pr me ab be pi le sg wo) U.heap ∧ K7 D cI q U)) (va_Qi (S := Int32 × Int32 × (Nat → Int32) × (Nat → Int32) × (Nat → Int32) × (Nat → Int32)) (fun r u => post r u.1 u.2.1 u.2.2.1 u.2.2.2.1 u.2.2.2.2.1 u.2.2.2.2.2) (fun u t => va_P D vwCl (w7 cI q u.1 sz sd ss u.2.1 me ab be u.2.2.1 u.2.2.2.1 u.2.2.2.2.1 u.2.2.2.2.2) t.heap) (A7 q)) 0 0 (A7 q) := by
  refine Met.ofW (cc := cX7_predict) (maxL := 1) (ret := (some .int)) (by decide) rfl ?_
  intro p e s m args below meth c s₁ B hml hv
  obtain ⟨rfl, hP, hK, hap⟩ := hv
  have C : C7 p s m _ meth c D cI q cX7_predict 1 (some .int) := ⟨B.exec, B.bytes, B.returns, hml, findClass_of_methodNamed B.named, x_hg (atoms_spec (ws := wu yX7_predict cX7_predict 1 (some .int)) B.pre), B.notSynchronized, hK, hap⟩
  obtain ⟨hx, hb, hr, hml, hown, hg, hlocks, hK, hap⟩ := id C
  have hS : va_S (A7 q) s.heap s.heap [] := va_S.rf
  have hl := lv_entry ([.ref (q 0)]) (n := 1) (Nat.le_of_ble_eq_true rfl)
  rw [lg_entry_eq]
  generalize (lg_sl ([.ref (q 0)]) ++ List.replicate (1 - (lg_sl ([.ref (q 0)])).length) Slot.unset).toArray = ls at hl ⊢
  have hl : lv_has ls 1 [(0, .ref (q 0))] := hl
  unfold wp_X7_predict at hw
  refine lv_aload_n hx hb dX7_predict_0 rfl (lv_at hl 0 rfl) ?_
  refine lv_aload_n hx hb dX7_predict_1 rfl (lv_at hl 0 rfl) ?_
  refine va_get (D := D) (ci := 7) (v := .int sd) (C := RX7) (T := TX7) (N := 12) hx hb hg ku_X7 hown hK hP 0 rfl rfl 4 (by decide) (hg _ kf_X7_23) (fun _ h9 => h9) rfl dX7_predict_2 ?_
  refine lv_if_eq (tgt := 24) hx hb dX7_predict_5 (by decide) (fun hc5 => ?_) (fun hc5 => ?_)
  · have hw := hw.1 hc5
    exact mj_X7_predict_24 C sz sd ss me ab be post  _ _ _ _ _ _ _ _ _ hw hP hS (lv_sub hl [0] rfl)
  · have hw := hw.2 hc5
    refine lv_aload_n hx hb dX7_predict_8 rfl (lv_at hl 0 rfl) ?_
    refine lv_iconst (v := 4) hx hb dX7_predict_9 (by decide) ?_
    refine va_calli (va_runV (As := [.int 4]) (rest := [.ref (q 0)]) ⟨hx, hb, hml, hown, hg⟩ (m_X7_fit l D cI q th sz sd ss pr me ab be pi le sg wo 4 _ hw) (cwV 1 hg (x_gV km_X7_144 ki_X7_fit kz_X7_X7_fit kn_X7 kk_X7_fit) rfl rfl rfl (by decide +kernel) ⟨Nat.le_of_ble_eq_true rfl, Nat.le_of_ble_eq_true rfl⟩) (pre7V hP hK hap [.int 4]) rfl rfl hl.1 rfl (lv_room (Nat.le_of_ble_eq_true rfl)) dX7_predict_10 ⟨Nat.zero_le _, Nat.zero_le _⟩) hS (fun _ _ h => h) (fun _ h => h) (fun r_10 u t H locs ht hvm hw hP hz1 hk1 hS => ?_)
    rw [ht] at hP; clear hz1 hk1 ht hvm
    try dsimp only at hw
    try dsimp only at hP
    refine lv_if_eq (tgt := 24) hx hb dX7_predict_13 (by decide) (fun hc13 => ?_) (fun hc13 => ?_)
    · have hw := hw.1 hc13
      exact mj_X7_predict_24 C sz sd ss me ab be post  _ _ _ _ _ _ _ _ _ hw hP hS (lv_sub hl [0] rfl)
    · have hw := hw.2 hc13
      refine lv_aload_n hx hb dX7_predict_16 rfl (lv_at hl 0 rfl) ?_
      refine va_get (D := D) (ci := 7) (v := .int pr) (C := RX7) (T := TX7) (N := 12) hx hb hg ku_X7 hown hK hP 0 rfl rfl 6 (by decide) (hg _ kf_X7_30) (fun _ h9 => h9) rfl dX7_predict_17 ?_
      refine lv_iconst (v := 4) hx hb dX7_predict_20 (by decide) ?_
      refine lv_icmp_ne (tgt := 28) hx hb dX7_predict_21 (by decide) (fun hc21 => ?_) (fun hc21 => ?_)
      · have hw := hw.1 hc21
        refine lv_iconst (v := 0) hx hb dX7_predict_28 (by decide) ?_
        exact mj_X7_predict_29 C sz sd ss me ab be post  _ _ _ _ _ _ _ _ _ _ hw hP hS (lv_sub hl [0] rfl)
      · have hw := hw.2 hc21
        exact mj_X7_predict_24 C sz sd ss me ab be post  _ _ _ _ _ _ _ _ _ hw hP hS (lv_sub hl [0] rfl)
-- ===== ExactFilterModel.measure
abbrev rX7_measure : Room := { frames := 8, cells := 0, slots := 0, locals := 194 }
def wj_X7_measure_59 (sz : Int32) (sd : Int32) (ab : Nat → Int32) (be : Nat → Int32) (post : Int32 → Int32 → Int32 → (Nat → Int32) → (Nat → Int32) → (Nat → Int32) → (Nat → Int32) → Prop)  (th : Int32) (me : Int32) (pi : Nat → Int32) (le : Nat → Int32) (sg : Nat → Int32) (wo : Nat → Int32) (x1 : Int32) (x2 : Int32) (s1 : Int32) : Prop := (s1 = 0 → wp_X7_doMeasure sz ab be pi le sg wo x1 x2 (fun (pi_74 : Nat → Int32) (le_74 : Nat → Int32) (sg_74 : Nat → Int32) (wo_74 : Nat → Int32) => post (me + 1) s1 (me + 1) pi_74 le_74 sg_74 wo_74)) ∧ (¬ s1 = 0 → post 0 s1 me pi le sg wo)
def wj_X7_measure_43 (sz : Int32) (sd : Int32) (ab : Nat → Int32) (be : Nat → Int32) (post : Int32 → Int32 → Int32 → (Nat → Int32) → (Nat → Int32) → (Nat → Int32) → (Nat → Int32) → Prop)  (th : Int32) (me : Int32) (pi : Nat → Int32) (le : Nat → Int32) (sg : Nat → Int32) (wo : Nat → Int32) (x1 : Int32) (x2 : Int32) : Prop := wj_X7_measure_59 sz sd ab be post  th me pi le sg wo x1 x2 2
def wp_X7_measure (th : Int32) (sz : Int32) (sd : Int32) (me : Int32) (ab : Nat → Int32) (be : Nat → Int32) (pi : Nat → Int32) (le : Nat → Int32) (sg : Nat → Int32) (wo : Nat → Int32) (x1 : Int32) (x2 : Int32) (post : Int32 → Int32 → Int32 → (Nat → Int32) → (Nat → Int32) → (Nat → Int32) → (Nat → Int32) → Prop) : Prop := wp_X7_noFraction  x1 x2 (fun (r_3 : Int32) => (r_3 = 0 → (sd = 0 → wj_X7_measure_43 sz sd ab be post  th me pi le sg wo x1 x2) ∧ (¬ sd = 0 → wp_X7_at  6 0 0 (fun (r_28 : Int32) => vp_in r_28 40 ∧ ((ab (r_28 : Int32).toNatClampNeg) < 0 → wj_X7_measure_43 sz sd ab be post  th me pi le sg wo x1 x2) ∧ (¬ (ab (r_28 : Int32).toNatClampNeg) < 0 → (¬ me = 3 → wp_X7_variance sz ab be pi le sg wo  (fun (r_48 : Int32) (pi_48 : Nat → Int32) (le_48 : Nat → Int32) (sg_48 : Nat → Int32) (wo_48 : Nat → Int32) => (¬ r_48 = 0 → wj_X7_measure_59 sz sd ab be post  th me pi_48 le_48 sg_48 wo_48 x1 x2 0) ∧ (r_48 = 0 → wj_X7_measure_59 sz sd ab be post  th me pi_48 le_48 sg_48 wo_48 x1 x2 3))) ∧ (me = 3 → wj_X7_measure_43 sz sd ab be post  th me pi le sg wo x1 x2))))) ∧ (¬ r_3 = 0 → wj_X7_measure_59 sz sd ab be post  th me pi le sg wo x1 x2 1))
set_option maxHeartbeats 4000000 in
set_option maxRecDepth 100000 in
theorem mj_X7_measure_59 (C : C7 p s m args meth c D cI q cX7_measure 3 (some .int)) (sz : Int32) (sd : Int32) (ss : Int32) (pr : Int32) (ab : Nat → Int32) (be : Nat → Int32) (post : Int32 → Int32 → Int32 → (Nat → Int32) → (Nat → Int32) → (Nat → Int32) → (Nat → Int32) → Prop) 
    
    (th : Int32) (me : Int32) (pi : Nat → Int32) (le : Nat → Int32) (sg : Nat → Int32) (wo : Nat → Int32) (x1 : Int32) (x2 : Int32) (s1 : Int32) (H : Heap) (locs : List Loc) (ls : Array Slot) (hw : wj_X7_measure_59 sz sd ab be post  th me pi le sg wo x1 x2 s1) (hP : va_P D vwCl (w7 cI q th sz sd ss pr me ab be pi le sg wo) H) (hS : va_S (A7 q) s.heap H locs) (hl : lv_has ls 3 [(0, .ref (q 0)), (1, .int x1), (2, .int x2)]) : W p l e rX7_measure s m args below meth c H locs 0 0 (MQ below (va_Qi (S := Int32 × Int32 × (Nat → Int32) × (Nat → Int32) × (Nat → Int32) × (Nat → Int32)) (fun r u => post r u.1 u.2.1 u.2.2.1 u.2.2.2.1 u.2.2.2.2.1 u.2.2.2.2.2) (fun u t => va_P D vwCl (w7 cI q u.1 sz sd ss pr u.2.1 ab be u.2.2.1 u.2.2.2.1 u.2.2.2.2.1 u.2.2.2.2.2) t.heap) (A7 q)) args s 0 0 (A7 q)) (F0 m 59 ls [.int s1, .ref (q 0)]) := by
  obtain ⟨hx, hb, hr, hml, hown, hg, hlocks, hK, hap⟩ := id C
  unfold wj_X7_measure_59 at hw
  refine va_put (D := D) (ci := 7) (v := .int s1) (ty := .int) (C := RX7) (T := TX7) (N := 12) hx hb hg ku_X7 tyX7 tyX7_ok nmX7 hown hK hP (D7 hap) hS 0 rfl rfl 0 (by decide) (hg _ kf_X7_7) (fun _ h9 => h9) rfl (by decide +kernel) rfl rfl (Nat.le_of_ble_eq_true rfl) dX7_measure_59 (fun H locs hP _ hS => ?_)
  have hP : va_P D vwCl (w7 cI q s1 sz sd ss pr me ab be pi le sg wo) H := hP
  refine lv_aload_n hx hb dX7_measure_62 rfl (lv_at hl 0 rfl) ?_
  refine va_get (D := D) (ci := 7) (v := .int s1) (C := RX7) (T := TX7) (N := 12) hx hb hg ku_X7 hown hK hP 0 rfl rfl 0 (by decide) (hg _ kf_X7_7) (fun _ h9 => h9) rfl dX7_measure_63 ?_
  refine lv_if_eq (tgt := 71) hx hb dX7_measure_66 (by decide) (fun hc66 => ?_) (fun hc66 => ?_)
  · have hw := hw.1 hc66
    refine lv_aload_n hx hb dX7_measure_71 rfl (lv_at hl 0 rfl) ?_
    refine lv_iload_n hx hb dX7_measure_72 rfl (lv_at hl 1 rfl) ?_
    refine lv_iload_n hx hb dX7_measure_73 rfl (lv_at hl 2 rfl) ?_
    refine va_callv (va_runV (As := [.int x1, .int x2]) (rest := []) ⟨hx, hb, hml, hown, hg⟩ (m_X7_doMeasure l D cI q s1 sz sd ss pr me ab be pi le sg wo x1 x2 _ hw) (cwV 2 hg (x_gV km_X7_155 ki_X7_doMeasure kz_X7_X7_doMeasure kn_X7 kk_X7_doMeasure) rfl rfl rfl (by decide +kernel) ⟨Nat.le_of_ble_eq_true rfl, Nat.le_of_ble_eq_true rfl⟩) (pre7V hP hK hap [.int x1, .int x2]) rfl rfl hl.1 rfl (lv_room (Nat.le_of_ble_eq_true rfl)) dX7_measure_74 ⟨Nat.zero_le _, Nat.zero_le _⟩) hS (fun _ _ h => h) (fun _ h => h) (fun  u t H locs ht hvm hw hP hz1 hk1 hS => ?_)
    obtain ⟨pi_74, le_74, sg_74, wo_74⟩ := u
    rw [ht] at hP; clear hz1 hk1 ht hvm
    try dsimp only at hw
    try dsimp only at hP
    refine lv_aload_n hx hb dX7_measure_77 rfl (lv_at hl 0 rfl) ?_
    refine lv_dup hx hb dX7_measure_78 rfl ?_
    refine va_get (D := D) (ci := 7) (v := .int me) (C := RX7) (T := TX7) (N := 12) hx hb hg ku_X7 hown hK hP 0 rfl rfl 7 (by decide) (hg _ kf_X7_33) (fun _ h9 => h9) rfl dX7_measure_79 ?_
    refine lv_iconst (v := 1) hx hb dX7_measure_82 (by decide) ?_
    refine lv_iadd hx hb dX7_measure_83 ?_
    refine va_put (D := D) (ci := 7) (v := .int (me + 1)) (ty := .int) (C := RX7) (T := TX7) (N := 12) hx hb hg ku_X7 tyX7 tyX7_ok nmX7 hown hK hP (D7 hap) hS 0 rfl rfl 7 (by decide) (hg _ kf_X7_33) (fun _ h9 => h9) rfl (by decide +kernel) rfl rfl (Nat.le_of_ble_eq_true rfl) dX7_measure_84 (fun H locs hP _ hS => ?_)
    have hP : va_P D vwCl (w7 cI q s1 sz sd ss pr (me + 1) ab be pi_74 le_74 sg_74 wo_74) H := hP
    refine lv_aload_n hx hb dX7_measure_87 rfl (lv_at hl 0 rfl) ?_
    refine va_get (D := D) (ci := 7) (v := .int (me + 1)) (C := RX7) (T := TX7) (N := 12) hx hb hg ku_X7 hown hK hP 0 rfl rfl 7 (by decide) (hg _ kf_X7_33) (fun _ h9 => h9) rfl dX7_measure_88 ?_
    exact W.iret (v := (me + 1)) hx hb hr (fun t ht hW => ⟨⟨(me + 1), (s1, (me + 1), pi_74, le_74, sg_74, wo_74), rfl, hw, by show va_P D vwCl _ t.heap; rw [ht]; exact hP⟩, hS.F ht⟩) hS.2.2 dX7_measure_91 hlocks
  · have hw := hw.2 hc66
    refine lv_iconst (v := 0) hx hb dX7_measure_69 (by decide) ?_
    exact W.iret (v := 0) hx hb hr (fun t ht hW => ⟨⟨0, (s1, me, pi, le, sg, wo), rfl, hw, by show va_P D vwCl _ t.heap; rw [ht]; exact hP⟩, hS.F ht⟩) hS.2.2 dX7_measure_70 hlocks
set_option maxHeartbeats 4000000 in
set_option maxRecDepth 100000 in
theorem mj_X7_measure_43 (C : C7 p s m args meth c D cI q cX7_measure 3 (some .int)) (sz : Int32) (sd : Int32) (ss : Int32) (pr : Int32) (ab : Nat → Int32) (be : Nat → Int32) (post : Int32 → Int32 → Int32 → (Nat → Int32) → (Nat → Int32) → (Nat → Int32) → (Nat → Int32) → Prop) 
    
    (th : Int32) (me : Int32) (pi : Nat → Int32) (le : Nat → Int32) (sg : Nat → Int32) (wo : Nat → Int32) (x1 : Int32) (x2 : Int32) (H : Heap) (locs : List Loc) (ls : Array Slot) (hw : wj_X7_measure_43 sz sd ab be post  th me pi le sg wo x1 x2) (hP : va_P D vwCl (w7 cI q th sz sd ss pr me ab be pi le sg wo) H) (hS : va_S (A7 q) s.heap H locs) (hl : lv_has ls 3 [(0, .ref (q 0)), (1, .int x1), (2, .int x2)]) : W p l e rX7_measure s m args below meth c H locs 0 0 (MQ below (va_Qi (S := Int32 × Int32 × (Nat → Int32) × (Nat → Int32) × (Nat → Int32) × (Nat → Int32)) (fun r u => post r u.1 u.2.1 u.2.2.1 u.2.2.2.1 u.2.2.2.2.1 u.2.2.2.2.2) (fun u t => va_P D vwCl (w7 cI q u.1 sz sd ss pr u.2.1 ab be u.2.2.1 u.2.2.2.1 u.2.2.2.2.1 u.2.2.2.2.2) t.heap) (A7 q)) args s 0 0 (A7 q)) (F0 m 43 ls [.ref (q 0)]) := by
  obtain ⟨hx, hb, hr, hml, hown, hg, hlocks, hK, hap⟩ := id C
  unfold wj_X7_measure_43 at hw
  refine lv_iconst (v := 2) hx hb dX7_measure_43 (by decide) ?_
  refine lv_goto (tgt := 59) hx hb dX7_measure_44 (by decide) ?_
  exact mj_X7_measure_59 C sz sd ss pr ab be post  _ _ _ _ _ _ _ _ _ _ _ _ hw hP hS (lv_sub hl [0, 1, 2] rfl)
set_option maxHeartbeats 4000000 in
set_option maxRecDepth 100000 in
theorem m_X7_measure (l : Launch) (D : va_G) (cI : ClassId) (q : Nat → Nat) (th : Int32) (sz : Int32) (sd : Int32) (ss : Int32) (pr : Int32) (me : Int32) (ab : Nat → Int32) (be : Nat → Int32) (pi : Nat → Int32) (le : Nat → Int32) (sg : Nat → Int32) (wo : Nat → Int32) (x1 : Int32) (x2 : Int32) (post : Int32 → Int32 → Int32 → (Nat → Int32) → (Nat → Int32) → (Nat → Int32) → (Nat → Int32) → Prop) (hw : wp_X7_measure th sz sd me ab be pi le sg wo x1 x2 post) : Met l yX7_measure (wu yX7_measure cX7_measure 3 (some .int)) rX7_measure (va_Pc [.ref (q 0), .int x1, .int x2] (fun U => va_P D vwCl (w7 cI q th sz sd ss pr me ab be pi le sg wo) U.heap ∧ K7 D cI q U)) (va_Qi (S := Int32 × Int32 × (Nat → Int32) × (Nat → Int32) × (Nat → Int32) × (Nat → Int32)) (fun r u => post r u.1 u.2.1 u.2.2.1 u.2.2.2.1 u.2.2.2.2.1 u.2.2.2.2.2) (fun u t => va_P D vwCl (w7 cI q u.1 sz sd ss pr u.2.1 ab be u.2.2.1 u.2.2.2.1 u.2.2.2.2.1 u.2.2.2.2.2) t.heap) (A7 q)) 0 0 (A7 q) := by
  refine Met.ofW (cc := cX7_measure) (maxL := 3) (ret := (some .int)) (by decide) rfl ?_
  intro p e s m args below meth c s₁ B hml hv
  obtain ⟨rfl, hP, hK, hap⟩ := hv
  have C : C7 p s m _ meth c D cI q cX7_measure 3 (some .int) := ⟨B.exec, B.bytes, B.returns, hml, findClass_of_methodNamed B.named, x_hg (atoms_spec (ws := wu yX7_measure cX7_measure 3 (some .int)) B.pre), B.notSynchronized, hK, hap⟩
  obtain ⟨hx, hb, hr, hml, hown, hg, hlocks, hK, hap⟩ := id C
  have hS : va_S (A7 q) s.heap s.heap [] := va_S.rf
  have hl := lv_entry ([.ref (q 0), .int x1, .int x2]) (n := 3) (Nat.le_of_ble_eq_true rfl)
  rw [lg_entry_eq]
  generalize (lg_sl ([.ref (q 0), .int x1, .int x2]) ++ List.replicate (3 - (lg_sl ([.ref (q 0), .int x1, .int x2])).length) Slot.unset).toArray = ls at hl ⊢
  have hl : lv_has ls 3 [(0, .ref (q 0)), (1, .int x1), (2, .int x2)] := hl
  unfold wp_X7_measure at hw
  refine lv_aload_n hx hb dX7_measure_0 rfl (lv_at hl 0 rfl) ?_
  refine lv_iload_n hx hb dX7_measure_1 rfl (lv_at hl 1 rfl) ?_
  refine lv_iload_n hx hb dX7_measure_2 rfl (lv_at hl 2 rfl) ?_
  refine va_calli (va_runS (As := [.int x1, .int x2]) (rest := [.ref (q 0)]) ⟨hx, hb, hml, hown, hg⟩ (m_X7_noFraction l x1 x2 _ hw) (va_cwS 2 hg (x_gS km_X7_140 ks_X7_noFraction kn_X7 kk_X7_noFraction) rfl rfl rfl (by decide +kernel) ⟨Nat.le_of_ble_eq_true rfl, Nat.le_of_ble_eq_true rfl⟩) pre7S rfl rfl hl.1 rfl (lv_room (Nat.le_of_ble_eq_true rfl)) dX7_measure_3 ⟨Nat.zero_le _, Nat.zero_le _⟩) hS (fun _ _ h => h.elim) (fun _ h => h.elim) (fun r_3 u t H1 locs1 ht hvm hw hB hz1 hk1 hS => ?_)
  have hP := hP.kept (fun k9 q9 h9 => hk1 q9.1 ((hP k9 q9 h9).lt) (fun z => z.elim))
  clear hB; generalize H1 = H at hP hS ⊢; generalize locs1 = locs at hS ⊢; try dsimp only at hw
  refine lv_if_eq (tgt := 13) hx hb dX7_measure_6 (by decide) (fun hc6 => ?_) (fun hc6 => ?_)
  · have hw := hw.1 hc6
    refine lv_aload_n hx hb dX7_measure_13 rfl (lv_at hl 0 rfl) ?_
    refine va_get (D := D) (ci := 7) (v := .int sd) (C := RX7) (T := TX7) (N := 12) hx hb hg ku_X7 hown hK hP 0 rfl rfl 4 (by decide) (hg _ kf_X7_23) (fun _ h9 => h9) rfl dX7_measure_14 ?_
    refine lv_if_eq (tgt := 43) hx hb dX7_measure_17 (by decide) (fun hc17 => ?_) (fun hc17 => ?_)
    · have hw := hw.1 hc17
      exact mj_X7_measure_43 C sz sd ss pr ab be post  _ _ _ _ _ _ _ _ _ _ _ hw hP hS (lv_sub hl [0, 1, 2] rfl)
    · have hw := hw.2 hc17
      refine lv_aload_n hx hb dX7_measure_20 rfl (lv_at hl 0 rfl) ?_
      refine va_get (D := D) (ci := 7) (v := .ref (q 1)) (C := RX7) (T := TX7) (N := 12) hx hb hg ku_X7 hown hK hP 0 rfl rfl 2 (by decide) (hg _ kf_X7_16) (fun _ h9 => h9) rfl dX7_measure_21 ?_
      refine lv_bipush (v := 6) hx hb dX7_measure_24 (by decide) ?_
      refine lv_iconst (v := 0) hx hb dX7_measure_26 (by decide) ?_
      refine lv_iconst (v := 0) hx hb dX7_measure_27 (by decide) ?_
      refine va_calli (va_runS (As := [.int 6, .int 0, .int 0]) (rest := [.ref (q 1), .ref (q 0)]) ⟨hx, hb, hml, hown, hg⟩ (m_X7_at l 6 0 0 _ hw) (va_cwS 3 hg (x_gS km_X7_53 ks_X7_at kn_X7 kk_X7_at) rfl rfl rfl (by decide +kernel) ⟨Nat.le_of_ble_eq_true rfl, Nat.le_of_ble_eq_true rfl⟩) pre7S rfl rfl hl.1 rfl (lv_room (Nat.le_of_ble_eq_true rfl)) dX7_measure_28 ⟨Nat.zero_le _, Nat.zero_le _⟩) hS (fun _ _ h => h.elim) (fun _ h => h.elim) (fun r_28 u t H1 locs1 ht hvm hw hB hz1 hk1 hS => ?_)
      have hP := hP.kept (fun k9 q9 h9 => hk1 q9.1 ((hP k9 q9 h9).lt) (fun z => z.elim))
      clear hB; generalize H1 = H at hP hS ⊢; generalize locs1 = locs at hS ⊢; try dsimp only at hw
      obtain ⟨hi31, hw⟩ := hw
      refine va_iald (D := D) hx hb hK hP 1 0 rfl rfl hi31 dX7_measure_31 ?_
      refine lv_if_lt (tgt := 43) hx hb dX7_measure_32 (by decide) (fun hc32 => ?_) (fun hc32 => ?_)
      · have hw := hw.1 hc32
        exact mj_X7_measure_43 C sz sd ss pr ab be post  _ _ _ _ _ _ _ _ _ _ _ hw hP hS (lv_sub hl [0, 1, 2] rfl)
      · have hw := hw.2 hc32
        refine lv_aload_n hx hb dX7_measure_35 rfl (lv_at hl 0 rfl) ?_
        refine va_get (D := D) (ci := 7) (v := .int me) (C := RX7) (T := TX7) (N := 12) hx hb hg ku_X7 hown hK hP 0 rfl rfl 7 (by decide) (hg _ kf_X7_33) (fun _ h9 => h9) rfl dX7_measure_36 ?_
        refine lv_iconst (v := 3) hx hb dX7_measure_39 (by decide) ?_
        refine lv_icmp_ne (tgt := 47) hx hb dX7_measure_40 (by decide) (fun hc40 => ?_) (fun hc40 => ?_)
        · have hw := hw.1 hc40
          refine lv_aload_n hx hb dX7_measure_47 rfl (lv_at hl 0 rfl) ?_
          refine va_calli (va_runV (As := []) (rest := [.ref (q 0)]) ⟨hx, hb, hml, hown, hg⟩ (m_X7_variance l D cI q th sz sd ss pr me ab be pi le sg wo  _ hw) (cwV 0 hg (x_gV km_X7_151 ki_X7_variance kz_X7_X7_variance kn_X7 kk_X7_variance) rfl rfl rfl (by decide +kernel) ⟨Nat.le_of_ble_eq_true rfl, Nat.le_of_ble_eq_true rfl⟩) (pre7V hP hK hap []) rfl rfl hl.1 rfl (lv_room (Nat.le_of_ble_eq_true rfl)) dX7_measure_48 ⟨Nat.zero_le _, Nat.zero_le _⟩) hS (fun _ _ h => h) (fun _ h => h) (fun r_48 u t H locs ht hvm hw hP hz1 hk1 hS => ?_)
          obtain ⟨pi_48, le_48, sg_48, wo_48⟩ := u
          rw [ht] at hP; clear hz1 hk1 ht hvm
          try dsimp only at hw
          try dsimp only at hP
          refine lv_if_ne (tgt := 58) hx hb dX7_measure_51 (by decide) (fun hc51 => ?_) (fun hc51 => ?_)
          · have hw := hw.1 hc51
            refine lv_iconst (v := 0) hx hb dX7_measure_58 (by decide) ?_
            exact mj_X7_measure_59 C sz sd ss pr ab be post  _ _ _ _ _ _ _ _ _ _ _ _ hw hP hS (lv_sub hl [0, 1, 2] rfl)
          · have hw := hw.2 hc51
            refine lv_iconst (v := 3) hx hb dX7_measure_54 (by decide) ?_
            refine lv_goto (tgt := 59) hx hb dX7_measure_55 (by decide) ?_
            exact mj_X7_measure_59 C sz sd ss pr ab be post  _ _ _ _ _ _ _ _ _ _ _ _ hw hP hS (lv_sub hl [0, 1, 2] rfl)
        · have hw := hw.2 hc40
          exact mj_X7_measure_43 C sz sd ss pr ab be post  _ _ _ _ _ _ _ _ _ _ _ hw hP hS (lv_sub hl [0, 1, 2] rfl)
  · have hw := hw.2 hc6
    refine lv_iconst (v := 1) hx hb dX7_measure_9 (by decide) ?_
    refine lv_goto (tgt := 59) hx hb dX7_measure_10 (by decide) ?_
    exact mj_X7_measure_59 C sz sd ss pr ab be post  _ _ _ _ _ _ _ _ _ _ _ _ hw hP hS (lv_sub hl [0, 1, 2] rfl)
-- ===== ExactFilterModel.asked
abbrev rX7_asked : Room := { frames := 1, cells := 0, slots := 0, locals := 21 }
def wj_X7_asked_167 (sz : Int32) (sd : Int32) (me : Int32) (post : Int32 → Int32 → Prop)  (th : Int32) (s0 : Int32) : Prop := post s0 th
def wj_X7_asked_115 (sz : Int32) (sd : Int32) (me : Int32) (post : Int32 → Int32 → Prop)  (th : Int32) (x1 : Int32) (x2 : Int32) (x3 : Int32) (x4 : Int32) : Prop := (x4 = 0 → (¬ x1 = 0 → (¬ x1 = 1 → (¬ x1 = 2 → (¬ x1 = 3 → wj_X7_asked_167 sz sd me post  th (8 + x2)) ∧ (x1 = 3 → wj_X7_asked_167 sz sd me post  th 7)) ∧ (x1 = 2 → wj_X7_asked_167 sz sd me post  th 6)) ∧ (x1 = 1 → wp_X7_cov  x2 x3 (fun (r_137 : Int32) => wj_X7_asked_167 sz sd me post  th r_137))) ∧ (x1 = 0 → wj_X7_asked_167 sz sd me post  th x2)) ∧ (¬ x4 = 0 → post 0 th)
def wj_X7_asked_103 (sz : Int32) (sd : Int32) (me : Int32) (post : Int32 → Int32 → Prop)  (th : Int32) (x1 : Int32) (x2 : Int32) (x3 : Int32) (s0 : Int32) : Prop := (s0 = 0 → wj_X7_asked_115 sz sd me post  th x1 x2 x3 s0) ∧ (¬ s0 = 0 → wj_X7_asked_115 sz sd me post  2 x1 x2 x3 s0)
def wj_X7_asked_98 (sz : Int32) (sd : Int32) (me : Int32) (post : Int32 → Int32 → Prop)  (th : Int32) (x1 : Int32) (x2 : Int32) (x3 : Int32) : Prop := wj_X7_asked_103 sz sd me post  th x1 x2 x3 1
def wj_X7_asked_95 (sz : Int32) (sd : Int32) (me : Int32) (post : Int32 → Int32 → Prop)  (th : Int32) (x1 : Int32) (x2 : Int32) (x3 : Int32) (s0 : Int32) (s1 : Int32) : Prop := (s0 < s1 → wj_X7_asked_103 sz sd me post  th x1 x2 x3 0) ∧ (¬ s0 < s1 → wj_X7_asked_98 sz sd me post  th x1 x2 x3)
def wj_X7_asked_78 (sz : Int32) (sd : Int32) (me : Int32) (post : Int32 → Int32 → Prop)  (th : Int32) (x1 : Int32) (x2 : Int32) (x3 : Int32) (s0 : Int32) (s1 : Int32) : Prop := (s1 ≤ s0 → wj_X7_asked_98 sz sd me post  th x1 x2 x3) ∧ (¬ s1 ≤ s0 → (¬ x1 = 1 → wj_X7_asked_95 sz sd me post  th x1 x2 x3 x3 1) ∧ (x1 = 1 → wj_X7_asked_95 sz sd me post  th x1 x2 x3 x3 sz))
def wj_X7_asked_70 (sz : Int32) (sd : Int32) (me : Int32) (post : Int32 → Int32 → Prop)  (th : Int32) (x1 : Int32) (x2 : Int32) (x3 : Int32) (s0 : Int32) : Prop := wj_X7_asked_78 sz sd me post  th x1 x2 x3 s0 1
def wj_X7_asked_30 (sz : Int32) (sd : Int32) (me : Int32) (post : Int32 → Int32 → Prop)  (th : Int32) (x1 : Int32) (x2 : Int32) (x3 : Int32) (s1 : Int32) : Prop := (s1 = 0 → (x1 < 0 → wj_X7_asked_98 sz sd me post  s1 x1 x2 x3) ∧ (¬ x1 < 0 → (4 < x1 → wj_X7_asked_98 sz sd me post  s1 x1 x2 x3) ∧ (¬ 4 < x1 → (x2 < 0 → wj_X7_asked_98 sz sd me post  s1 x1 x2 x3) ∧ (¬ x2 < 0 → (x3 < 0 → wj_X7_asked_98 sz sd me post  s1 x1 x2 x3) ∧ (¬ x3 < 0 → (x1 = 2 → wj_X7_asked_70 sz sd me post  s1 x1 x2 x3 x2) ∧ (¬ x1 = 2 → (¬ x1 = 3 → wj_X7_asked_78 sz sd me post  s1 x1 x2 x3 x2 sz) ∧ (x1 = 3 → wj_X7_asked_70 sz sd me post  s1 x1 x2 x3 x2))))))) ∧ (¬ s1 = 0 → post 0 s1)
def wj_X7_asked_25 (sz : Int32) (sd : Int32) (me : Int32) (post : Int32 → Int32 → Prop)  (th : Int32) (x1 : Int32) (x2 : Int32) (x3 : Int32) : Prop := wj_X7_asked_30 sz sd me post  th x1 x2 x3 1
def wj_X7_asked_29 (sz : Int32) (sd : Int32) (me : Int32) (post : Int32 → Int32 → Prop)  (th : Int32) (x1 : Int32) (x2 : Int32) (x3 : Int32) : Prop := wj_X7_asked_30 sz sd me post  th x1 x2 x3 0
def wp_X7_asked (th : Int32) (sz : Int32) (sd : Int32) (me : Int32) (x1 : Int32) (x2 : Int32) (x3 : Int32) (post : Int32 → Int32 → Prop) : Prop := (sd = 0 → wj_X7_asked_25 sz sd me post  th x1 x2 x3) ∧ (¬ sd = 0 → (x1 ≤ 1 → wj_X7_asked_29 sz sd me post  th x1 x2 x3) ∧ (¬ x1 ≤ 1 → (5 ≤ x1 → wj_X7_asked_29 sz sd me post  th x1 x2 x3) ∧ (¬ 5 ≤ x1 → (¬ me = 0 → wj_X7_asked_29 sz sd me post  th x1 x2 x3) ∧ (me = 0 → wj_X7_asked_25 sz sd me post  th x1 x2 x3))))
set_option maxHeartbeats 4000000 in
set_option maxRecDepth 100000 in
theorem mj_X7_asked_167 (C : C7 p s m args meth c D cI q cX7_asked 5 (some .int)) (sz : Int32) (sd : Int32) (ss : Int32) (pr : Int32) (me : Int32) (ab : Nat → Int32) (be : Nat → Int32) (pi : Nat → Int32) (le : Nat → Int32) (sg : Nat → Int32) (wo : Nat → Int32) (post : Int32 → Int32 → Prop) 
    
    (th : Int32) (s0 : Int32) (H : Heap) (locs : List Loc) (ls : Array Slot) (hw : wj_X7_asked_167 sz sd me post  th s0) (hP : va_P D vwCl (w7 cI q th sz sd ss pr me ab be pi le sg wo) H) (hS : va_S (A7 q) s.heap H locs) (hl : lv_has ls 5 []) : W p l e rX7_asked s m args below meth c H locs 0 0 (MQ below (va_Qi (S := Int32) (fun r u => post r u) (fun u t => va_P D vwCl (w7 cI q u sz sd ss pr me ab be pi le sg wo) t.heap) (A7 q)) args s 0 0 (A7 q)) (F0 m 167 ls [.int s0]) := by
  obtain ⟨hx, hb, hr, hml, hown, hg, hlocks, hK, hap⟩ := id C
  unfold wj_X7_asked_167 at hw
  exact W.iret (v := s0) hx hb hr (fun t ht hW => ⟨⟨s0, (th), rfl, hw, by show va_P D vwCl _ t.heap; rw [ht]; exact hP⟩, hS.F ht⟩) hS.2.2 dX7_asked_167 hlocks
set_option maxHeartbeats 4000000 in
set_option maxRecDepth 100000 in
theorem mj_X7_asked_115 (C : C7 p s m args meth c D cI q cX7_asked 5 (some .int)) (sz : Int32) (sd : Int32) (ss : Int32) (pr : Int32) (me : Int32) (ab : Nat → Int32) (be : Nat → Int32) (pi : Nat → Int32) (le : Nat → Int32) (sg : Nat → Int32) (wo : Nat → Int32) (post : Int32 → Int32 → Prop) 
    
    (th : Int32) (x1 : Int32) (x2 : Int32) (x3 : Int32) (x4 : Int32) (H : Heap) (locs : List Loc) (ls : Array Slot) (hw : wj_X7_asked_115 sz sd me post  th x1 x2 x3 x4) (hP : va_P D vwCl (w7 cI q th sz sd ss pr me ab be pi le sg wo) H) (hS : va_S (A7 q) s.heap H locs) (hl : lv_has ls 5 [(1, .int x1), (2, .int x2), (3, .int x3), (4, .int x4)]) : W p l e rX7_asked s m args below meth c H locs 0 0 (MQ below (va_Qi (S := Int32) (fun r u => post r u) (fun u t => va_P D vwCl (w7 cI q u sz sd ss pr me ab be pi le sg wo) t.heap) (A7 q)) args s 0 0 (A7 q)) (F0 m 115 ls []) := by
  obtain ⟨hx, hb, hr, hml, hown, hg, hlocks, hK, hap⟩ := id C
  unfold wj_X7_asked_115 at hw
  refine lv_iload hx hb dX7_asked_115 (lv_at hl 3 rfl) ?_
  refine lv_if_eq (tgt := 122) hx hb dX7_asked_117 (by decide) (fun hc117 => ?_) (fun hc117 => ?_)
  · have hw := hw.1 hc117
    refine lv_iload_n hx hb dX7_asked_122 rfl (lv_at hl 0 rfl) ?_
    refine lv_if_ne (tgt := 130) hx hb dX7_asked_123 (by decide) (fun hc123 => ?_) (fun hc123 => ?_)
    · have hw := hw.1 hc123
      refine lv_iload_n hx hb dX7_asked_130 rfl (lv_at hl 0 rfl) ?_
      refine lv_iconst (v := 1) hx hb dX7_asked_131 (by decide) ?_
      refine lv_icmp_ne (tgt := 143) hx hb dX7_asked_132 (by decide) (fun hc132 => ?_) (fun hc132 => ?_)
      · have hw := hw.1 hc132
        refine lv_iload_n hx hb dX7_asked_143 rfl (lv_at hl 0 rfl) ?_
        refine lv_iconst (v := 2) hx hb dX7_asked_144 (by decide) ?_
        refine lv_icmp_ne (tgt := 153) hx hb dX7_asked_145 (by decide) (fun hc145 => ?_) (fun hc145 => ?_)
        · have hw := hw.1 hc145
          refine lv_iload_n hx hb dX7_asked_153 rfl (lv_at hl 0 rfl) ?_
          refine lv_iconst (v := 3) hx hb dX7_asked_154 (by decide) ?_
          refine lv_icmp_ne (tgt := 163) hx hb dX7_asked_155 (by decide) (fun hc155 => ?_) (fun hc155 => ?_)
          · have hw := hw.1 hc155
            refine lv_bipush (v := 8) hx hb dX7_asked_163 (by decide) ?_
            refine lv_iload_n hx hb dX7_asked_165 rfl (lv_at hl 1 rfl) ?_
            refine lv_iadd hx hb dX7_asked_166 ?_
            exact mj_X7_asked_167 C sz sd ss pr me ab be pi le sg wo post  _ _ _ _ _ hw hP hS (lv_sub hl [] rfl)
          · have hw := hw.2 hc155
            refine lv_bipush (v := 7) hx hb dX7_asked_158 (by decide) ?_
            refine lv_goto (tgt := 167) hx hb dX7_asked_160 (by decide) ?_
            exact mj_X7_asked_167 C sz sd ss pr me ab be pi le sg wo post  _ _ _ _ _ hw hP hS (lv_sub hl [] rfl)
        · have hw := hw.2 hc145
          refine lv_bipush (v := 6) hx hb dX7_asked_148 (by decide) ?_
          refine lv_goto (tgt := 167) hx hb dX7_asked_150 (by decide) ?_
          exact mj_X7_asked_167 C sz sd ss pr me ab be pi le sg wo post  _ _ _ _ _ hw hP hS (lv_sub hl [] rfl)
      · have hw := hw.2 hc132
        refine lv_iload_n hx hb dX7_asked_135 rfl (lv_at hl 1 rfl) ?_
        refine lv_iload_n hx hb dX7_asked_136 rfl (lv_at hl 2 rfl) ?_
        refine va_calli (va_runS (As := [.int x2, .int x3]) (rest := []) ⟨hx, hb, hml, hown, hg⟩ (m_X7_cov l x2 x3 _ hw) (va_cwS 2 hg (x_gS km_X7_121 ks_X7_cov kn_X7 kk_X7_cov) rfl rfl rfl (by decide +kernel) ⟨Nat.le_of_ble_eq_true rfl, Nat.le_of_ble_eq_true rfl⟩) pre7S rfl rfl hl.1 rfl (lv_room (Nat.le_of_ble_eq_true rfl)) dX7_asked_137 ⟨Nat.zero_le _, Nat.zero_le _⟩) hS (fun _ _ h => h.elim) (fun _ h => h.elim) (fun r_137 u t H1 locs1 ht hvm hw hB hz1 hk1 hS => ?_)
        have hP := hP.kept (fun k9 q9 h9 => hk1 q9.1 ((hP k9 q9 h9).lt) (fun z => z.elim))
        clear hB; generalize H1 = H at hP hS ⊢; generalize locs1 = locs at hS ⊢; try dsimp only at hw
        refine lv_goto (tgt := 167) hx hb dX7_asked_140 (by decide) ?_
        exact mj_X7_asked_167 C sz sd ss pr me ab be pi le sg wo post  _ _ _ _ _ hw hP hS (lv_sub hl [] rfl)
    · have hw := hw.2 hc123
      refine lv_iload_n hx hb dX7_asked_126 rfl (lv_at hl 1 rfl) ?_
      refine lv_goto (tgt := 167) hx hb dX7_asked_127 (by decide) ?_
      exact mj_X7_asked_167 C sz sd ss pr me ab be pi le sg wo post  _ _ _ _ _ hw hP hS (lv_sub hl [] rfl)
  · have hw := hw.2 hc117
    refine lv_iconst (v := 0) hx hb dX7_asked_120 (by decide) ?_
    exact W.iret (v := 0) hx hb hr (fun t ht hW => ⟨⟨0, (th), rfl, hw, by show va_P D vwCl _ t.heap; rw [ht]; exact hP⟩, hS.F ht⟩) hS.2.2 dX7_asked_121 hlocks
set_option maxHeartbeats 4000000 in
set_option maxRecDepth 100000 in
theorem mj_X7_asked_103 (C : C7 p s m args meth c D cI q cX7_asked 5 (some .int)) (sz : Int32) (sd : Int32) (ss : Int32) (pr : Int32) (me : Int32) (ab : Nat → Int32) (be : Nat → Int32) (pi : Nat → Int32) (le : Nat → Int32) (sg : Nat → Int32) (wo : Nat → Int32) (post : Int32 → Int32 → Prop) 
    
    (th : Int32) (x1 : Int32) (x2 : Int32) (x3 : Int32) (s0 : Int32) (H : Heap) (locs : List Loc) (ls : Array Slot) (hw : wj_X7_asked_103 sz sd me post  th x1 x2 x3 s0) (hP : va_P D vwCl (w7 cI q th sz sd ss pr me ab be pi le sg wo) H) (hS : va_S (A7 q) s.heap H locs) (hl : lv_has ls 5 [(0, .ref (q 0)), (1, .int x1), (2, .int x2), (3, .int x3)]) : W p l e rX7_asked s m args below meth c H locs 0 0 (MQ below (va_Qi (S := Int32) (fun r u => post r u) (fun u t => va_P D vwCl (w7 cI q u sz sd ss pr me ab be pi le sg wo) t.heap) (A7 q)) args s 0 0 (A7 q)) (F0 m 103 ls [.int s0]) := by
  obtain ⟨hx, hb, hr, hml, hown, hg, hlocks, hK, hap⟩ := id C
  unfold wj_X7_asked_103 at hw
  refine lv_istore (lv' := [(4, .int s0), (0, .ref (q 0)), (1, .int x1), (2, .int x2), (3, .int x3)]) hx hb dX7_asked_103 hl (by decide) rfl (fun ls hl => ?_)
  refine lv_iload hx hb dX7_asked_105 (lv_at hl 0 rfl) ?_
  refine lv_if_eq (tgt := 115) hx hb dX7_asked_107 (by decide) (fun hc107 => ?_) (fun hc107 => ?_)
  · have hw := hw.1 hc107
    exact mj_X7_asked_115 C sz sd ss pr me ab be pi le sg wo post  _ _ _ _ _ _ _ _ hw hP hS (lv_sub hl [2, 3, 4, 0] rfl)
  · have hw := hw.2 hc107
    refine lv_aload_n hx hb dX7_asked_110 rfl (lv_at hl 1 rfl) ?_
    refine lv_iconst (v := 2) hx hb dX7_asked_111 (by decide) ?_
    refine va_put (D := D) (ci := 7) (v := .int 2) (ty := .int) (C := RX7) (T := TX7) (N := 12) hx hb hg ku_X7 tyX7 tyX7_ok nmX7 hown hK hP (D7 hap) hS 0 rfl rfl 0 (by decide) (hg _ kf_X7_7) (fun _ h9 => h9) rfl (by decide +kernel) rfl rfl (Nat.le_of_ble_eq_true rfl) dX7_asked_112 (fun H locs hP _ hS => ?_)
    have hP : va_P D vwCl (w7 cI q 2 sz sd ss pr me ab be pi le sg wo) H := hP
    exact mj_X7_asked_115 C sz sd ss pr me ab be pi le sg wo post  _ _ _ _ _ _ _ _ hw hP hS (lv_sub hl [2, 3, 4, 0] rfl)
set_option maxHeartbeats 4000000 in
set_option maxRecDepth 100000 in
theorem mj_X7_asked_98 (C : C7 p s m args meth c D cI q cX7_asked 5 (some .int)) (sz : Int32) (sd : Int32) (ss : Int32) (pr : Int32) (me : Int32) (ab : Nat → Int32) (be : Nat → Int32) (pi : Nat → Int32) (le : Nat → Int32) (sg : Nat → Int32) (wo : Nat → Int32) (post : Int32 → Int32 → Prop) 
    
    (th : Int32) (x1 : Int32) (x2 : Int32) (x3 : Int32) (H : Heap) (locs : List Loc) (ls : Array Slot) (hw : wj_X7_asked_98 sz sd me post  th x1 x2 x3) (hP : va_P D vwCl (w7 cI q th sz sd ss pr me ab be pi le sg wo) H) (hS : va_S (A7 q) s.heap H locs) (hl : lv_has ls 5 [(0, .ref (q 0)), (1, .int x1), (2, .int x2), (3, .int x3)]) : W p l e rX7_asked s m args below meth c H locs 0 0 (MQ below (va_Qi (S := Int32) (fun r u => post r u) (fun u t => va_P D vwCl (w7 cI q u sz sd ss pr me ab be pi le sg wo) t.heap) (A7 q)) args s 0 0 (A7 q)) (F0 m 98 ls []) := by
  obtain ⟨hx, hb, hr, hml, hown, hg, hlocks, hK, hap⟩ := id C
  unfold wj_X7_asked_98 at hw
  refine lv_iconst (v := 1) hx hb dX7_asked_98 (by decide) ?_
  refine lv_goto (tgt := 103) hx hb dX7_asked_99 (by decide) ?_
  exact mj_X7_asked_103 C sz sd ss pr me ab be pi le sg wo post  _ _ _ _ _ _ _ _ hw hP hS (lv_sub hl [0, 1, 2, 3] rfl)
set_option maxHeartbeats 4000000 in
set_option maxRecDepth 100000 in
theorem mj_X7_asked_95 (C : C7 p s m args meth c D cI q cX7_asked 5 (some .int)) (sz : Int32) (sd : Int32) (ss : Int32) (pr : Int32) (me : Int32) (ab : Nat → Int32) (be : Nat → Int32) (pi : Nat → Int32) (le : Nat → Int32) (sg : Nat → Int32) (wo : Nat → Int32) (post : Int32 → Int32 → Prop) 
    
    (th : Int32) (x1 : Int32) (x2 : Int32) (x3 : Int32) (s0 : Int32) (s1 : Int32) (H : Heap) (locs : List Loc) (ls : Array Slot) (hw : wj_X7_asked_95 sz sd me post  th x1 x2 x3 s0 s1) (hP : va_P D vwCl (w7 cI q th sz sd ss pr me ab be pi le sg wo) H) (hS : va_S (A7 q) s.heap H locs) (hl : lv_has ls 5 [(0, .ref (q 0)), (1, .int x1), (2, .int x2), (3, .int x3)]) : W p l e rX7_asked s m args below meth c H locs 0 0 (MQ below (va_Qi (S := Int32) (fun r u => post r u) (fun u t => va_P D vwCl (w7 cI q u sz sd ss pr me ab be pi le sg wo) t.heap) (A7 q)) args s 0 0 (A7 q)) (F0 m 95 ls [.int s1, .int s0]) := by
  obtain ⟨hx, hb, hr, hml, hown, hg, hlocks, hK, hap⟩ := id C
  unfold wj_X7_asked_95 at hw
  refine lv_icmp_lt (tgt := 102) hx hb dX7_asked_95 (by decide) (fun hc95 => ?_) (fun hc95 => ?_)
  · have hw := hw.1 hc95
    refine lv_iconst (v := 0) hx hb dX7_asked_102 (by decide) ?_
    exact mj_X7_asked_103 C sz sd ss pr me ab be pi le sg wo post  _ _ _ _ _ _ _ _ hw hP hS (lv_sub hl [0, 1, 2, 3] rfl)
  · have hw := hw.2 hc95
    exact mj_X7_asked_98 C sz sd ss pr me ab be pi le sg wo post  _ _ _ _ _ _ _ hw hP hS (lv_sub hl [0, 1, 2, 3] rfl)
set_option maxHeartbeats 4000000 in
set_option maxRecDepth 100000 in
theorem mj_X7_asked_78 (C : C7 p s m args meth c D cI q cX7_asked 5 (some .int)) (sz : Int32) (sd : Int32) (ss : Int32) (pr : Int32) (me : Int32) (ab : Nat → Int32) (be : Nat → Int32) (pi : Nat → Int32) (le : Nat → Int32) (sg : Nat → Int32) (wo : Nat → Int32) (post : Int32 → Int32 → Prop) 
    
    (th : Int32) (x1 : Int32) (x2 : Int32) (x3 : Int32) (s0 : Int32) (s1 : Int32) (H : Heap) (locs : List Loc) (ls : Array Slot) (hw : wj_X7_asked_78 sz sd me post  th x1 x2 x3 s0 s1) (hP : va_P D vwCl (w7 cI q th sz sd ss pr me ab be pi le sg wo) H) (hS : va_S (A7 q) s.heap H locs) (hl : lv_has ls 5 [(0, .ref (q 0)), (1, .int x1), (2, .int x2), (3, .int x3)]) : W p l e rX7_asked s m args below meth c H locs 0 0 (MQ below (va_Qi (S := Int32) (fun r u => post r u) (fun u t => va_P D vwCl (w7 cI q u sz sd ss pr me ab be pi le sg wo) t.heap) (A7 q)) args s 0 0 (A7 q)) (F0 m 78 ls [.int s1, .int s0]) := by
  obtain ⟨hx, hb, hr, hml, hown, hg, hlocks, hK, hap⟩ := id C
  unfold wj_X7_asked_78 at hw
  refine lv_icmp_ge (tgt := 98) hx hb dX7_asked_78 (by decide) (fun hc78 => ?_) (fun hc78 => ?_)
  · have hw := hw.1 hc78
    exact mj_X7_asked_98 C sz sd ss pr me ab be pi le sg wo post  _ _ _ _ _ _ _ hw hP hS (lv_sub hl [0, 1, 2, 3] rfl)
  · have hw := hw.2 hc78
    refine lv_iload_n hx hb dX7_asked_81 rfl (lv_at hl 3 rfl) ?_
    refine lv_iload_n hx hb dX7_asked_82 rfl (lv_at hl 1 rfl) ?_
    refine lv_iconst (v := 1) hx hb dX7_asked_83 (by decide) ?_
    refine lv_icmp_ne (tgt := 94) hx hb dX7_asked_84 (by decide) (fun hc84 => ?_) (fun hc84 => ?_)
    · have hw := hw.1 hc84
      refine lv_iconst (v := 1) hx hb dX7_asked_94 (by decide) ?_
      exact mj_X7_asked_95 C sz sd ss pr me ab be pi le sg wo post  _ _ _ _ _ _ _ _ _ hw hP hS (lv_sub hl [0, 1, 2, 3] rfl)
    · have hw := hw.2 hc84
      refine lv_aload_n hx hb dX7_asked_87 rfl (lv_at hl 0 rfl) ?_
      refine va_get (D := D) (ci := 7) (v := .int sz) (C := RX7) (T := TX7) (N := 12) hx hb hg ku_X7 hown hK hP 0 rfl rfl 1 (by decide) (hg _ kf_X7_13) (fun _ h9 => h9) rfl dX7_asked_88 ?_
      refine lv_goto (tgt := 95) hx hb dX7_asked_91 (by decide) ?_
      exact mj_X7_asked_95 C sz sd ss pr me ab be pi le sg wo post  _ _ _ _ _ _ _ _ _ hw hP hS (lv_sub hl [0, 1, 2, 3] rfl)
set_option maxHeartbeats 4000000 in
set_option maxRecDepth 100000 in
theorem mj_X7_asked_70 (C : C7 p s m args meth c D cI q cX7_asked 5 (some .int)) (sz : Int32) (sd : Int32) (ss : Int32) (pr : Int32) (me : Int32) (ab : Nat → Int32) (be : Nat → Int32) (pi : Nat → Int32) (le : Nat → Int32) (sg : Nat → Int32) (wo : Nat → Int32) (post : Int32 → Int32 → Prop) 
    
    (th : Int32) (x1 : Int32) (x2 : Int32) (x3 : Int32) (s0 : Int32) (H : Heap) (locs : List Loc) (ls : Array Slot) (hw : wj_X7_asked_70 sz sd me post  th x1 x2 x3 s0) (hP : va_P D vwCl (w7 cI q th sz sd ss pr me ab be pi le sg wo) H) (hS : va_S (A7 q) s.heap H locs) (hl : lv_has ls 5 [(0, .ref (q 0)), (1, .int x1), (2, .int x2), (3, .int x3)]) : W p l e rX7_asked s m args below meth c H locs 0 0 (MQ below (va_Qi (S := Int32) (fun r u => post r u) (fun u t => va_P D vwCl (w7 cI q u sz sd ss pr me ab be pi le sg wo) t.heap) (A7 q)) args s 0 0 (A7 q)) (F0 m 70 ls [.int s0]) := by
  obtain ⟨hx, hb, hr, hml, hown, hg, hlocks, hK, hap⟩ := id C
  unfold wj_X7_asked_70 at hw
  refine lv_iconst (v := 1) hx hb dX7_asked_70 (by decide) ?_
  refine lv_goto (tgt := 78) hx hb dX7_asked_71 (by decide) ?_
  exact mj_X7_asked_78 C sz sd ss pr me ab be pi le sg wo post  _ _ _ _ _ _ _ _ _ hw hP hS (lv_sub hl [0, 1, 2, 3] rfl)
set_option maxHeartbeats 4000000 in
set_option maxRecDepth 100000 in
theorem mj_X7_asked_30 (C : C7 p s m args meth c D cI q cX7_asked 5 (some .int)) (sz : Int32) (sd : Int32) (ss : Int32) (pr : Int32) (me : Int32) (ab : Nat → Int32) (be : Nat → Int32) (pi : Nat → Int32) (le : Nat → Int32) (sg : Nat → Int32) (wo : Nat → Int32) (post : Int32 → Int32 → Prop) 
    
    (th : Int32) (x1 : Int32) (x2 : Int32) (x3 : Int32) (s1 : Int32) (H : Heap) (locs : List Loc) (ls : Array Slot) (hw : wj_X7_asked_30 sz sd me post  th x1 x2 x3 s1) (hP : va_P D vwCl (w7 cI q th sz sd ss pr me ab be pi le sg wo) H) (hS : va_S (A7 q) s.heap H locs) (hl : lv_has ls 5 [(0, .ref (q 0)), (1, .int x1), (2, .int x2), (3, .int x3)]) : W p l e rX7_asked s m args below meth c H locs 0 0 (MQ below (va_Qi (S := Int32) (fun r u => post r u) (fun u t => va_P D vwCl (w7 cI q u sz sd ss pr me ab be pi le sg wo) t.heap) (A7 q)) args s 0 0 (A7 q)) (F0 m 30 ls [.int s1, .ref (q 0)]) := by
  obtain ⟨hx, hb, hr, hml, hown, hg, hlocks, hK, hap⟩ := id C
  unfold wj_X7_asked_30 at hw
  refine va_put (D := D) (ci := 7) (v := .int s1) (ty := .int) (C := RX7) (T := TX7) (N := 12) hx hb hg ku_X7 tyX7 tyX7_ok nmX7 hown hK hP (D7 hap) hS 0 rfl rfl 0 (by decide) (hg _ kf_X7_7) (fun _ h9 => h9) rfl (by decide +kernel) rfl rfl (Nat.le_of_ble_eq_true rfl) dX7_asked_30 (fun H locs hP _ hS => ?_)
  have hP : va_P D vwCl (w7 cI q s1 sz sd ss pr me ab be pi le sg wo) H := hP
  refine lv_aload_n hx hb dX7_asked_33 rfl (lv_at hl 0 rfl) ?_
  refine va_get (D := D) (ci := 7) (v := .int s1) (C := RX7) (T := TX7) (N := 12) hx hb hg ku_X7 hown hK hP 0 rfl rfl 0 (by decide) (hg _ kf_X7_7) (fun _ h9 => h9) rfl dX7_asked_34 ?_
  refine lv_if_eq (tgt := 42) hx hb dX7_asked_37 (by decide) (fun hc37 => ?_) (fun hc37 => ?_)
  · have hw := hw.1 hc37
    refine lv_iload_n hx hb dX7_asked_42 rfl (lv_at hl 1 rfl) ?_
    refine lv_if_lt (tgt := 98) hx hb dX7_asked_43 (by decide) (fun hc43 => ?_) (fun hc43 => ?_)
    · have hw := hw.1 hc43
      exact mj_X7_asked_98 C sz sd ss pr me ab be pi le sg wo post  _ _ _ _ _ _ _ hw hP hS (lv_sub hl [0, 1, 2, 3] rfl)
    · have hw := hw.2 hc43
      refine lv_iload_n hx hb dX7_asked_46 rfl (lv_at hl 1 rfl) ?_
      refine lv_iconst (v := 4) hx hb dX7_asked_47 (by decide) ?_
      refine lv_icmp_gt (tgt := 98) hx hb dX7_asked_48 (by decide) (fun hc48 => ?_) (fun hc48 => ?_)
      · have hw := hw.1 hc48
        exact mj_X7_asked_98 C sz sd ss pr me ab be pi le sg wo post  _ _ _ _ _ _ _ hw hP hS (lv_sub hl [0, 1, 2, 3] rfl)
      · have hw := hw.2 hc48
        refine lv_iload_n hx hb dX7_asked_51 rfl (lv_at hl 2 rfl) ?_
        refine lv_if_lt (tgt := 98) hx hb dX7_asked_52 (by decide) (fun hc52 => ?_) (fun hc52 => ?_)
        · have hw := hw.1 hc52
          exact mj_X7_asked_98 C sz sd ss pr me ab be pi le sg wo post  _ _ _ _ _ _ _ hw hP hS (lv_sub hl [0, 1, 2, 3] rfl)
        · have hw := hw.2 hc52
          refine lv_iload_n hx hb dX7_asked_55 rfl (lv_at hl 3 rfl) ?_
          refine lv_if_lt (tgt := 98) hx hb dX7_asked_56 (by decide) (fun hc56 => ?_) (fun hc56 => ?_)
          · have hw := hw.1 hc56
            exact mj_X7_asked_98 C sz sd ss pr me ab be pi le sg wo post  _ _ _ _ _ _ _ hw hP hS (lv_sub hl [0, 1, 2, 3] rfl)
          · have hw := hw.2 hc56
            refine lv_iload_n hx hb dX7_asked_59 rfl (lv_at hl 2 rfl) ?_
            refine lv_iload_n hx hb dX7_asked_60 rfl (lv_at hl 1 rfl) ?_
            refine lv_iconst (v := 2) hx hb dX7_asked_61 (by decide) ?_
            refine lv_icmp_eq (tgt := 70) hx hb dX7_asked_62 (by decide) (fun hc62 => ?_) (fun hc62 => ?_)
            · have hw := hw.1 hc62
              exact mj_X7_asked_70 C sz sd ss pr me ab be pi le sg wo post  _ _ _ _ _ _ _ _ hw hP hS (lv_sub hl [0, 1, 2, 3] rfl)
            · have hw := hw.2 hc62
              refine lv_iload_n hx hb dX7_asked_65 rfl (lv_at hl 1 rfl) ?_
              refine lv_iconst (v := 3) hx hb dX7_asked_66 (by decide) ?_
              refine lv_icmp_ne (tgt := 74) hx hb dX7_asked_67 (by decide) (fun hc67 => ?_) (fun hc67 => ?_)
              · have hw := hw.1 hc67
                refine lv_aload_n hx hb dX7_asked_74 rfl (lv_at hl 0 rfl) ?_
                refine va_get (D := D) (ci := 7) (v := .int sz) (C := RX7) (T := TX7) (N := 12) hx hb hg ku_X7 hown hK hP 0 rfl rfl 1 (by decide) (hg _ kf_X7_13) (fun _ h9 => h9) rfl dX7_asked_75 ?_
                exact mj_X7_asked_78 C sz sd ss pr me ab be pi le sg wo post  _ _ _ _ _ _ _ _ _ hw hP hS (lv_sub hl [0, 1, 2, 3] rfl)
              · have hw := hw.2 hc67
                exact mj_X7_asked_70 C sz sd ss pr me ab be pi le sg wo post  _ _ _ _ _ _ _ _ hw hP hS (lv_sub hl [0, 1, 2, 3] rfl)
  · have hw := hw.2 hc37
    refine lv_iconst (v := 0) hx hb dX7_asked_40 (by decide) ?_
    exact W.iret (v := 0) hx hb hr (fun t ht hW => ⟨⟨0, (s1), rfl, hw, by show va_P D vwCl _ t.heap; rw [ht]; exact hP⟩, hS.F ht⟩) hS.2.2 dX7_asked_41 hlocks
set_option maxHeartbeats 4000000 in
set_option maxRecDepth 100000 in
theorem mj_X7_asked_25 (C : C7 p s m args meth c D cI q cX7_asked 5 (some .int)) (sz : Int32) (sd : Int32) (ss : Int32) (pr : Int32) (me : Int32) (ab : Nat → Int32) (be : Nat → Int32) (pi : Nat → Int32) (le : Nat → Int32) (sg : Nat → Int32) (wo : Nat → Int32) (post : Int32 → Int32 → Prop) 
    
    (th : Int32) (x1 : Int32) (x2 : Int32) (x3 : Int32) (H : Heap) (locs : List Loc) (ls : Array Slot) (hw : wj_X7_asked_25 sz sd me post  th x1 x2 x3) (hP : va_P D vwCl (w7 cI q th sz sd ss pr me ab be pi le sg wo) H) (hS : va_S (A7 q) s.heap H locs) (hl : lv_has ls 5 [(0, .ref (q 0)), (1, .int x1), (2, .int x2), (3, .int x3)]) : W p l e rX7_asked s m args below meth c H locs 0 0 (MQ below (va_Qi (S := Int32) (fun r u => post r u) (fun u t => va_P D vwCl (w7 cI q u sz sd ss pr me ab be pi le sg wo) t.heap) (A7 q)) args s 0 0 (A7 q)) (F0 m 25 ls [.ref (q 0)]) := by
  obtain ⟨hx, hb, hr, hml, hown, hg, hlocks, hK, hap⟩ := id C
  unfold wj_X7_asked_25 at hw
  refine lv_iconst (v := 1) hx hb dX7_asked_25 (by decide) ?_
  refine lv_goto (tgt := 30) hx hb dX7_asked_26 (by decide) ?_
  exact mj_X7_asked_30 C sz sd ss pr me ab be pi le sg wo post  _ _ _ _ _ _ _ _ hw hP hS (lv_sub hl [0, 1, 2, 3] rfl)
set_option maxHeartbeats 4000000 in
set_option maxRecDepth 100000 in
theorem mj_X7_asked_29 (C : C7 p s m args meth c D cI q cX7_asked 5 (some .int)) (sz : Int32) (sd : Int32) (ss : Int32) (pr : Int32) (me : Int32) (ab : Nat → Int32) (be : Nat → Int32) (pi : Nat → Int32) (le : Nat → Int32) (sg : Nat → Int32) (wo : Nat → Int32) (post : Int32 → Int32 → Prop) 
    
    (th : Int32) (x1 : Int32) (x2 : Int32) (x3 : Int32) (H : Heap) (locs : List Loc) (ls : Array Slot) (hw : wj_X7_asked_29 sz sd me post  th x1 x2 x3) (hP : va_P D vwCl (w7 cI q th sz sd ss pr me ab be pi le sg wo) H) (hS : va_S (A7 q) s.heap H locs) (hl : lv_has ls 5 [(0, .ref (q 0)), (1, .int x1), (2, .int x2), (3, .int x3)]) : W p l e rX7_asked s m args below meth c H locs 0 0 (MQ below (va_Qi (S := Int32) (fun r u => post r u) (fun u t => va_P D vwCl (w7 cI q u sz sd ss pr me ab be pi le sg wo) t.heap) (A7 q)) args s 0 0 (A7 q)) (F0 m 29 ls [.ref (q 0)]) := by
  obtain ⟨hx, hb, hr, hml, hown, hg, hlocks, hK, hap⟩ := id C
  unfold wj_X7_asked_29 at hw
  refine lv_iconst (v := 0) hx hb dX7_asked_29 (by decide) ?_
  exact mj_X7_asked_30 C sz sd ss pr me ab be pi le sg wo post  _ _ _ _ _ _ _ _ hw hP hS (lv_sub hl [0, 1, 2, 3] rfl)
set_option maxHeartbeats 4000000 in
set_option maxRecDepth 100000 in
theorem m_X7_asked (l : Launch) (D : va_G) (cI : ClassId) (q : Nat → Nat) (th : Int32) (sz : Int32) (sd : Int32) (ss : Int32) (pr : Int32) (me : Int32) (ab : Nat → Int32) (be : Nat → Int32) (pi : Nat → Int32) (le : Nat → Int32) (sg : Nat → Int32) (wo : Nat → Int32) (x1 : Int32) (x2 : Int32) (x3 : Int32) (post : Int32 → Int32 → Prop) (hw : wp_X7_asked th sz sd me x1 x2 x3 post) : Met l yX7_asked (wu yX7_asked cX7_asked 5 (some .int)) rX7_asked (va_Pc [.ref (q 0), .int x1, .int x2, .int x3] (fun U => va_P D vwCl (w7 cI q th sz sd ss pr me ab be pi le sg wo) U.heap ∧ K7 D cI q U)) (va_Qi (S := Int32) (fun r u => post r u) (fun u t => va_P D vwCl (w7 cI q u sz sd ss pr me ab be pi le sg wo) t.heap) (A7 q)) 0 0 (A7 q) := by
  refine Met.ofW (cc := cX7_asked) (maxL := 5) (ret := (some .int)) (by decide) rfl ?_
  intro p e s m args below meth c s₁ B hml hv
  obtain ⟨rfl, hP, hK, hap⟩ := hv
  have C : C7 p s m _ meth c D cI q cX7_asked 5 (some .int) := ⟨B.exec, B.bytes, B.returns, hml, findClass_of_methodNamed B.named, x_hg (atoms_spec (ws := wu yX7_asked cX7_asked 5 (some .int)) B.pre), B.notSynchronized, hK, hap⟩
  obtain ⟨hx, hb, hr, hml, hown, hg, hlocks, hK, hap⟩ := id C
  have hS : va_S (A7 q) s.heap s.heap [] := va_S.rf
  have hl := lv_entry ([.ref (q 0), .int x1, .int x2, .int x3]) (n := 5) (Nat.le_of_ble_eq_true rfl)
  rw [lg_entry_eq]
  generalize (lg_sl ([.ref (q 0), .int x1, .int x2, .int x3]) ++ List.replicate (5 - (lg_sl ([.ref (q 0), .int x1, .int x2, .int x3])).length) Slot.unset).toArray = ls at hl ⊢
  have hl : lv_has ls 5 [(0, .ref (q 0)), (1, .int x1), (2, .int x2), (3, .int x3)] := hl
  unfold wp_X7_asked at hw
  refine lv_aload_n hx hb dX7_asked_0 rfl (lv_at hl 0 rfl) ?_
  refine lv_aload_n hx hb dX7_asked_1 rfl (lv_at hl 0 rfl) ?_
  refine va_get (D := D) (ci := 7) (v := .int sd) (C := RX7) (T := TX7) (N := 12) hx hb hg ku_X7 hown hK hP 0 rfl rfl 4 (by decide) (hg _ kf_X7_23) (fun _ h9 => h9) rfl dX7_asked_2 ?_
  refine lv_if_eq (tgt := 25) hx hb dX7_asked_5 (by decide) (fun hc5 => ?_) (fun hc5 => ?_)
  · have hw := hw.1 hc5
    exact mj_X7_asked_25 C sz sd ss pr me ab be pi le sg wo post  _ _ _ _ _ _ _ hw hP hS (lv_sub hl [0, 1, 2, 3] rfl)
  · have hw := hw.2 hc5
    refine lv_iload_n hx hb dX7_asked_8 rfl (lv_at hl 1 rfl) ?_
    refine lv_iconst (v := 1) hx hb dX7_asked_9 (by decide) ?_
    refine lv_icmp_le (tgt := 29) hx hb dX7_asked_10 (by decide) (fun hc10 => ?_) (fun hc10 => ?_)
    · have hw := hw.1 hc10
      exact mj_X7_asked_29 C sz sd ss pr me ab be pi le sg wo post  _ _ _ _ _ _ _ hw hP hS (lv_sub hl [0, 1, 2, 3] rfl)
    · have hw := hw.2 hc10
      refine lv_iload_n hx hb dX7_asked_13 rfl (lv_at hl 1 rfl) ?_
      refine lv_iconst (v := 5) hx hb dX7_asked_14 (by decide) ?_
      refine lv_icmp_ge (tgt := 29) hx hb dX7_asked_15 (by decide) (fun hc15 => ?_) (fun hc15 => ?_)
      · have hw := hw.1 hc15
        exact mj_X7_asked_29 C sz sd ss pr me ab be pi le sg wo post  _ _ _ _ _ _ _ hw hP hS (lv_sub hl [0, 1, 2, 3] rfl)
      · have hw := hw.2 hc15
        refine lv_aload_n hx hb dX7_asked_18 rfl (lv_at hl 0 rfl) ?_
        refine va_get (D := D) (ci := 7) (v := .int me) (C := RX7) (T := TX7) (N := 12) hx hb hg ku_X7 hown hK hP 0 rfl rfl 7 (by decide) (hg _ kf_X7_33) (fun _ h9 => h9) rfl dX7_asked_19 ?_
        refine lv_if_ne (tgt := 29) hx hb dX7_asked_22 (by decide) (fun hc22 => ?_) (fun hc22 => ?_)
        · have hw := hw.1 hc22
          exact mj_X7_asked_29 C sz sd ss pr me ab be pi le sg wo post  _ _ _ _ _ _ _ hw hP hS (lv_sub hl [0, 1, 2, 3] rfl)
        · have hw := hw.2 hc22
          exact mj_X7_asked_25 C sz sd ss pr me ab be pi le sg wo post  _ _ _ _ _ _ _ hw hP hS (lv_sub hl [0, 1, 2, 3] rfl)
-- ===== ExactFilterModel.sign
abbrev rX7_sign : Room := { frames := 2, cells := 0, slots := 0, locals := 45 }
def wj_X7_sign_27 (sz : Int32) (sd : Int32) (me : Int32) (sg : Nat → Int32) (post : Int32 → Int32 → Prop)  (th : Int32) (s0 : Int32) : Prop := post s0 th
def wp_X7_sign (th : Int32) (sz : Int32) (sd : Int32) (me : Int32) (sg : Nat → Int32) (x1 : Int32) (x2 : Int32) (x3 : Int32) (post : Int32 → Int32 → Prop) : Prop := wp_X7_asked th sz sd me x1 x2 x3 (fun (r_4 : Int32) (th_4 : Int32) => (th_4 = 0 → vp_in r_4 24 ∧ wj_X7_sign_27 sz sd me sg post  th_4 (sg (r_4 : Int32).toNatClampNeg)) ∧ (¬ th_4 = 0 → wj_X7_sign_27 sz sd me sg post  th_4 0))
set_option maxHeartbeats 4000000 in
set_option maxRecDepth 100000 in
theorem mj_X7_sign_27 (C : C7 p s m args meth c D cI q cX7_sign 5 (some .int)) (sz : Int32) (sd : Int32) (ss : Int32) (pr : Int32) (me : Int32) (ab : Nat → Int32) (be : Nat → Int32) (pi : Nat → Int32) (le : Nat → Int32) (sg : Nat → Int32) (wo : Nat → Int32) (post : Int32 → Int32 → Prop) 
    
    (th : Int32) (s0 : Int32) (H : Heap) (locs : List Loc) (ls : Array Slot) (hw : wj_X7_sign_27 sz sd me sg post  th s0) (hP : va_P D vwCl (w7 cI q th sz sd ss pr me ab be pi le sg wo) H) (hS : va_S (A7 q) s.heap H locs) (hl : lv_has ls 5 []) : W p l e rX7_sign s m args below meth c H locs 0 0 (MQ below (va_Qi (S := Int32) (fun r u => post r u) (fun u t => va_P D vwCl (w7 cI q u sz sd ss pr me ab be pi le sg wo) t.heap) (A7 q)) args s 0 0 (A7 q)) (F0 m 27 ls [.int s0]) := by
  obtain ⟨hx, hb, hr, hml, hown, hg, hlocks, hK, hap⟩ := id C
  unfold wj_X7_sign_27 at hw
  exact W.iret (v := s0) hx hb hr (fun t ht hW => ⟨⟨s0, (th), rfl, hw, by show va_P D vwCl _ t.heap; rw [ht]; exact hP⟩, hS.F ht⟩) hS.2.2 dX7_sign_27 hlocks
set_option maxHeartbeats 4000000 in
set_option maxRecDepth 100000 in
theorem m_X7_sign (l : Launch) (D : va_G) (cI : ClassId) (q : Nat → Nat) (th : Int32) (sz : Int32) (sd : Int32) (ss : Int32) (pr : Int32) (me : Int32) (ab : Nat → Int32) (be : Nat → Int32) (pi : Nat → Int32) (le : Nat → Int32) (sg : Nat → Int32) (wo : Nat → Int32) (x1 : Int32) (x2 : Int32) (x3 : Int32) (post : Int32 → Int32 → Prop) (hw : wp_X7_sign th sz sd me sg x1 x2 x3 post) : Met l yX7_sign (wu yX7_sign cX7_sign 5 (some .int)) rX7_sign (va_Pc [.ref (q 0), .int x1, .int x2, .int x3] (fun U => va_P D vwCl (w7 cI q th sz sd ss pr me ab be pi le sg wo) U.heap ∧ K7 D cI q U)) (va_Qi (S := Int32) (fun r u => post r u) (fun u t => va_P D vwCl (w7 cI q u sz sd ss pr me ab be pi le sg wo) t.heap) (A7 q)) 0 0 (A7 q) := by
  refine Met.ofW (cc := cX7_sign) (maxL := 5) (ret := (some .int)) (by decide) rfl ?_
  intro p e s m args below meth c s₁ B hml hv
  obtain ⟨rfl, hP, hK, hap⟩ := hv
  have C : C7 p s m _ meth c D cI q cX7_sign 5 (some .int) := ⟨B.exec, B.bytes, B.returns, hml, findClass_of_methodNamed B.named, x_hg (atoms_spec (ws := wu yX7_sign cX7_sign 5 (some .int)) B.pre), B.notSynchronized, hK, hap⟩
  obtain ⟨hx, hb, hr, hml, hown, hg, hlocks, hK, hap⟩ := id C
  have hS : va_S (A7 q) s.heap s.heap [] := va_S.rf
  have hl := lv_entry ([.ref (q 0), .int x1, .int x2, .int x3]) (n := 5) (Nat.le_of_ble_eq_true rfl)
  rw [lg_entry_eq]
  generalize (lg_sl ([.ref (q 0), .int x1, .int x2, .int x3]) ++ List.replicate (5 - (lg_sl ([.ref (q 0), .int x1, .int x2, .int x3])).length) Slot.unset).toArray = ls at hl ⊢
  have hl : lv_has ls 5 [(0, .ref (q 0)), (1, .int x1), (2, .int x2), (3, .int x3)] := hl
  unfold wp_X7_sign at hw
  refine lv_aload_n hx hb dX7_sign_0 rfl (lv_at hl 0 rfl) ?_
  refine lv_iload_n hx hb dX7_sign_1 rfl (lv_at hl 1 rfl) ?_
  refine lv_iload_n hx hb dX7_sign_2 rfl (lv_at hl 2 rfl) ?_
  refine lv_iload_n hx hb dX7_sign_3 rfl (lv_at hl 3 rfl) ?_
  refine va_calli (va_runV (As := [.int x1, .int x2, .int x3]) (rest := []) ⟨hx, hb, hml, hown, hg⟩ (m_X7_asked l D cI q th sz sd ss pr me ab be pi le sg wo x1 x2 x3 _ hw) (cwV 3 hg (x_gV km_X7_158 ki_X7_asked kz_X7_X7_asked kn_X7 kk_X7_asked) rfl rfl rfl (by decide +kernel) ⟨Nat.le_of_ble_eq_true rfl, Nat.le_of_ble_eq_true rfl⟩) (pre7V hP hK hap [.int x1, .int x2, .int x3]) rfl rfl hl.1 rfl (lv_room (Nat.le_of_ble_eq_true rfl)) dX7_sign_4 ⟨Nat.zero_le _, Nat.zero_le _⟩) hS (fun _ _ h => h) (fun _ h => h) (fun r_4 u t H locs ht hvm hw hP hz1 hk1 hS => ?_)
  obtain ⟨th_4, rfl⟩ : ∃ z, z = u := ⟨_, rfl⟩
  rw [ht] at hP; clear hz1 hk1 ht hvm
  try dsimp only at hw
  try dsimp only at hP
  refine lv_istore (lv' := [(4, .int r_4), (0, .ref (q 0)), (1, .int x1), (2, .int x2), (3, .int x3)]) hx hb dX7_sign_7 hl (by decide) rfl (fun ls hl => ?_)
  refine lv_aload_n hx hb dX7_sign_9 rfl (lv_at hl 1 rfl) ?_
  refine va_get (D := D) (ci := 7) (v := .int th_4) (C := RX7) (T := TX7) (N := 12) hx hb hg ku_X7 hown hK hP 0 rfl rfl 0 (by decide) (hg _ kf_X7_7) (fun _ h9 => h9) rfl dX7_sign_10 ?_
  refine lv_if_eq (tgt := 20) hx hb dX7_sign_13 (by decide) (fun hc13 => ?_) (fun hc13 => ?_)
  · have hw := hw.1 hc13
    refine lv_aload_n hx hb dX7_sign_20 rfl (lv_at hl 1 rfl) ?_
    refine va_get (D := D) (ci := 7) (v := .ref (q 5)) (C := RX7) (T := TX7) (N := 12) hx hb hg ku_X7 hown hK hP 0 rfl rfl 10 (by decide) (hg _ kf_X7_43) (fun _ h9 => h9) rfl dX7_sign_21 ?_
    refine lv_iload hx hb dX7_sign_24 (lv_at hl 0 rfl) ?_
    obtain ⟨hi26, hw⟩ := hw
    refine va_iald (D := D) hx hb hK hP 5 0 rfl rfl hi26 dX7_sign_26 ?_
    exact mj_X7_sign_27 C sz sd ss pr me ab be pi le sg wo post  _ _ _ _ _ hw hP hS (lv_sub hl [] rfl)
  · have hw := hw.2 hc13
    refine lv_iconst (v := 0) hx hb dX7_sign_16 (by decide) ?_
    refine lv_goto (tgt := 27) hx hb dX7_sign_17 (by decide) ?_
    exact mj_X7_sign_27 C sz sd ss pr me ab be pi le sg wo post  _ _ _ _ _ hw hP hS (lv_sub hl [] rfl)
-- ===== ExactFilterModel.pieces
abbrev rX7_pieces : Room := { frames := 2, cells := 0, slots := 0, locals := 45 }
def wj_X7_pieces_55 (sz : Int32) (sd : Int32) (me : Int32) (le : Nat → Int32) (post : Int32 → Int32 → Prop)  (th : Int32) (s0 : Int32) : Prop := post s0 th
def wj_X7_pieces_32 (sz : Int32) (sd : Int32) (me : Int32) (le : Nat → Int32) (post : Int32 → Int32 → Prop)  (th : Int32) (x4 : Int32) (x5 : Int32) : Prop := (th = 0 → vp_in ((2 * x5) + x4) 64 ∧ wj_X7_pieces_55 sz sd me le post  th (le (((2 * x5) + x4) : Int32).toNatClampNeg)) ∧ (¬ th = 0 → wj_X7_pieces_55 sz sd me le post  th 0)
def wj_X7_pieces_27 (sz : Int32) (sd : Int32) (me : Int32) (le : Nat → Int32) (post : Int32 → Int32 → Prop)  (th : Int32) (x4 : Int32) (x5 : Int32) : Prop := wj_X7_pieces_32 sz sd me le post  2 x4 x5
def wp_X7_pieces (th : Int32) (sz : Int32) (sd : Int32) (me : Int32) (le : Nat → Int32) (x1 : Int32) (x2 : Int32) (x3 : Int32) (x4 : Int32) (post : Int32 → Int32 → Prop) : Prop := wp_X7_asked th sz sd me x1 x2 x3 (fun (r_4 : Int32) (th_4 : Int32) => (¬ th_4 = 0 → wj_X7_pieces_32 sz sd me le post  th_4 x4 r_4) ∧ (th_4 = 0 → (x4 < 0 → wj_X7_pieces_27 sz sd me le post  th_4 x4 r_4) ∧ (¬ x4 < 0 → (x4 ≤ 1 → wj_X7_pieces_32 sz sd me le post  th_4 x4 r_4) ∧ (¬ x4 ≤ 1 → wj_X7_pieces_27 sz sd me le post  th_4 x4 r_4))))
set_option maxHeartbeats 4000000 in
set_option maxRecDepth 100000 in
theorem mj_X7_pieces_55 (C : C7 p s m args meth c D cI q cX7_pieces 6 (some .int)) (sz : Int32) (sd : Int32) (ss : Int32) (pr : Int32) (me : Int32) (ab : Nat → Int32) (be : Nat → Int32) (pi : Nat → Int32) (le : Nat → Int32) (sg : Nat → Int32) (wo : Nat → Int32) (post : Int32 → Int32 → Prop) 
    
    (th : Int32) (s0 : Int32) (H : Heap) (locs : List Loc) (ls : Array Slot) (hw : wj_X7_pieces_55 sz sd me le post  th s0) (hP : va_P D vwCl (w7 cI q th sz sd ss pr me ab be pi le sg wo) H) (hS : va_S (A7 q) s.heap H locs) (hl : lv_has ls 6 []) : W p l e rX7_pieces s m args below meth c H locs 0 0 (MQ below (va_Qi (S := Int32) (fun r u => post r u) (fun u t => va_P D vwCl (w7 cI q u sz sd ss pr me ab be pi le sg wo) t.heap) (A7 q)) args s 0 0 (A7 q)) (F0 m 55 ls [.int s0]) := by
  obtain ⟨hx, hb, hr, hml, hown, hg, hlocks, hK, hap⟩ := id C
  unfold wj_X7_pieces_55 at hw
  exact W.iret (v := s0) hx hb hr (fun t ht hW => ⟨⟨s0, (th), rfl, hw, by show va_P D vwCl _ t.heap; rw [ht]; exact hP⟩, hS.F ht⟩) hS.2.2 dX7_pieces_55 hlocks
set_option maxHeartbeats 4000000 in
set_option maxRecDepth 100000 in
theorem mj_X7_pieces_32 (C : C7 p s m args meth c D cI q cX7_pieces 6 (some .int)) (sz : Int32) (sd : Int32) (ss : Int32) (pr : Int32) (me : Int32) (ab : Nat → Int32) (be : Nat → Int32) (pi : Nat → Int32) (le : Nat → Int32) (sg : Nat → Int32) (wo : Nat → Int32) (post : Int32 → Int32 → Prop) 
    
    (th : Int32) (x4 : Int32) (x5 : Int32) (H : Heap) (locs : List Loc) (ls : Array Slot) (hw : wj_X7_pieces_32 sz sd me le post  th x4 x5) (hP : va_P D vwCl (w7 cI q th sz sd ss pr me ab be pi le sg wo) H) (hS : va_S (A7 q) s.heap H locs) (hl : lv_has ls 6 [(0, .ref (q 0)), (4, .int x4), (5, .int x5)]) : W p l e rX7_pieces s m args below meth c H locs 0 0 (MQ below (va_Qi (S := Int32) (fun r u => post r u) (fun u t => va_P D vwCl (w7 cI q u sz sd ss pr me ab be pi le sg wo) t.heap) (A7 q)) args s 0 0 (A7 q)) (F0 m 32 ls []) := by
  obtain ⟨hx, hb, hr, hml, hown, hg, hlocks, hK, hap⟩ := id C
  unfold wj_X7_pieces_32 at hw
  refine lv_aload_n hx hb dX7_pieces_32 rfl (lv_at hl 0 rfl) ?_
  refine va_get (D := D) (ci := 7) (v := .int th) (C := RX7) (T := TX7) (N := 12) hx hb hg ku_X7 hown hK hP 0 rfl rfl 0 (by decide) (hg _ kf_X7_7) (fun _ h9 => h9) rfl dX7_pieces_33 ?_
  refine lv_if_eq (tgt := 43) hx hb dX7_pieces_36 (by decide) (fun hc36 => ?_) (fun hc36 => ?_)
  · have hw := hw.1 hc36
    refine lv_aload_n hx hb dX7_pieces_43 rfl (lv_at hl 0 rfl) ?_
    refine va_get (D := D) (ci := 7) (v := .ref (q 4)) (C := RX7) (T := TX7) (N := 12) hx hb hg ku_X7 hown hK hP 0 rfl rfl 9 (by decide) (hg _ kf_X7_40) (fun _ h9 => h9) rfl dX7_pieces_44 ?_
    refine lv_iconst (v := 2) hx hb dX7_pieces_47 (by decide) ?_
    refine lv_iload hx hb dX7_pieces_48 (lv_at hl 2 rfl) ?_
    refine lv_imul hx hb dX7_pieces_50 ?_
    refine lv_iload hx hb dX7_pieces_51 (lv_at hl 1 rfl) ?_
    refine lv_iadd hx hb dX7_pieces_53 ?_
    obtain ⟨hi54, hw⟩ := hw
    refine va_iald (D := D) hx hb hK hP 4 0 rfl rfl hi54 dX7_pieces_54 ?_
    exact mj_X7_pieces_55 C sz sd ss pr me ab be pi le sg wo post  _ _ _ _ _ hw hP hS (lv_sub hl [] rfl)
  · have hw := hw.2 hc36
    refine lv_iconst (v := 0) hx hb dX7_pieces_39 (by decide) ?_
    refine lv_goto (tgt := 55) hx hb dX7_pieces_40 (by decide) ?_
    exact mj_X7_pieces_55 C sz sd ss pr me ab be pi le sg wo post  _ _ _ _ _ hw hP hS (lv_sub hl [] rfl)
set_option maxHeartbeats 4000000 in
set_option maxRecDepth 100000 in
theorem mj_X7_pieces_27 (C : C7 p s m args meth c D cI q cX7_pieces 6 (some .int)) (sz : Int32) (sd : Int32) (ss : Int32) (pr : Int32) (me : Int32) (ab : Nat → Int32) (be : Nat → Int32) (pi : Nat → Int32) (le : Nat → Int32) (sg : Nat → Int32) (wo : Nat → Int32) (post : Int32 → Int32 → Prop) 
    
    (th : Int32) (x4 : Int32) (x5 : Int32) (H : Heap) (locs : List Loc) (ls : Array Slot) (hw : wj_X7_pieces_27 sz sd me le post  th x4 x5) (hP : va_P D vwCl (w7 cI q th sz sd ss pr me ab be pi le sg wo) H) (hS : va_S (A7 q) s.heap H locs) (hl : lv_has ls 6 [(0, .ref (q 0)), (4, .int x4), (5, .int x5)]) : W p l e rX7_pieces s m args below meth c H locs 0 0 (MQ below (va_Qi (S := Int32) (fun r u => post r u) (fun u t => va_P D vwCl (w7 cI q u sz sd ss pr me ab be pi le sg wo) t.heap) (A7 q)) args s 0 0 (A7 q)) (F0 m 27 ls []) := by
  obtain ⟨hx, hb, hr, hml, hown, hg, hlocks, hK, hap⟩ := id C
  unfold wj_X7_pieces_27 at hw
  refine lv_aload_n hx hb dX7_pieces_27 rfl (lv_at hl 0 rfl) ?_
  refine lv_iconst (v := 2) hx hb dX7_pieces_28 (by decide) ?_
  refine va_put (D := D) (ci := 7) (v := .int 2) (ty := .int) (C := RX7) (T := TX7) (N := 12) hx hb hg ku_X7 tyX7 tyX7_ok nmX7 hown hK hP (D7 hap) hS 0 rfl rfl 0 (by decide) (hg _ kf_X7_7) (fun _ h9 => h9) rfl (by decide +kernel) rfl rfl (Nat.le_of_ble_eq_true rfl) dX7_pieces_29 (fun H locs hP _ hS => ?_)
  have hP : va_P D vwCl (w7 cI q 2 sz sd ss pr me ab be pi le sg wo) H := hP
  exact mj_X7_pieces_32 C sz sd ss pr me ab be pi le sg wo post  _ _ _ _ _ _ hw hP hS (lv_sub hl [0, 1, 2] rfl)
set_option maxHeartbeats 4000000 in
set_option maxRecDepth 100000 in
theorem m_X7_pieces (l : Launch) (D : va_G) (cI : ClassId) (q : Nat → Nat) (th : Int32) (sz : Int32) (sd : Int32) (ss : Int32) (pr : Int32) (me : Int32) (ab : Nat → Int32) (be : Nat → Int32) (pi : Nat → Int32) (le : Nat → Int32) (sg : Nat → Int32) (wo : Nat → Int32) (x1 : Int32) (x2 : Int32) (x3 : Int32) (x4 : Int32) (post : Int32 → Int32 → Prop) (hw : wp_X7_pieces th sz sd me le x1 x2 x3 x4 post) : Met l yX7_pieces (wu yX7_pieces cX7_pieces 6 (some .int)) rX7_pieces (va_Pc [.ref (q 0), .int x1, .int x2, .int x3, .int x4] (fun U => va_P D vwCl (w7 cI q th sz sd ss pr me ab be pi le sg wo) U.heap ∧ K7 D cI q U)) (va_Qi (S := Int32) (fun r u => post r u) (fun u t => va_P D vwCl (w7 cI q u sz sd ss pr me ab be pi le sg wo) t.heap) (A7 q)) 0 0 (A7 q) := by
  refine Met.ofW (cc := cX7_pieces) (maxL := 6) (ret := (some .int)) (by decide) rfl ?_
  intro p e s m args below meth c s₁ B hml hv
  obtain ⟨rfl, hP, hK, hap⟩ := hv
  have C : C7 p s m _ meth c D cI q cX7_pieces 6 (some .int) := ⟨B.exec, B.bytes, B.returns, hml, findClass_of_methodNamed B.named, x_hg (atoms_spec (ws := wu yX7_pieces cX7_pieces 6 (some .int)) B.pre), B.notSynchronized, hK, hap⟩
  obtain ⟨hx, hb, hr, hml, hown, hg, hlocks, hK, hap⟩ := id C
  have hS : va_S (A7 q) s.heap s.heap [] := va_S.rf
  have hl := lv_entry ([.ref (q 0), .int x1, .int x2, .int x3, .int x4]) (n := 6) (Nat.le_of_ble_eq_true rfl)
  rw [lg_entry_eq]
  generalize (lg_sl ([.ref (q 0), .int x1, .int x2, .int x3, .int x4]) ++ List.replicate (6 - (lg_sl ([.ref (q 0), .int x1, .int x2, .int x3, .int x4])).length) Slot.unset).toArray = ls at hl ⊢
  have hl : lv_has ls 6 [(0, .ref (q 0)), (1, .int x1), (2, .int x2), (3, .int x3), (4, .int x4)] := hl
  unfold wp_X7_pieces at hw
  refine lv_aload_n hx hb dX7_pieces_0 rfl (lv_at hl 0 rfl) ?_
  refine lv_iload_n hx hb dX7_pieces_1 rfl (lv_at hl 1 rfl) ?_
  refine lv_iload_n hx hb dX7_pieces_2 rfl (lv_at hl 2 rfl) ?_
  refine lv_iload_n hx hb dX7_pieces_3 rfl (lv_at hl 3 rfl) ?_
  refine va_calli (va_runV (As := [.int x1, .int x2, .int x3]) (rest := []) ⟨hx, hb, hml, hown, hg⟩ (m_X7_asked l D cI q th sz sd ss pr me ab be pi le sg wo x1 x2 x3 _ hw) (cwV 3 hg (x_gV km_X7_158 ki_X7_asked kz_X7_X7_asked kn_X7 kk_X7_asked) rfl rfl rfl (by decide +kernel) ⟨Nat.le_of_ble_eq_true rfl, Nat.le_of_ble_eq_true rfl⟩) (pre7V hP hK hap [.int x1, .int x2, .int x3]) rfl rfl hl.1 rfl (lv_room (Nat.le_of_ble_eq_true rfl)) dX7_pieces_4 ⟨Nat.zero_le _, Nat.zero_le _⟩) hS (fun _ _ h => h) (fun _ h => h) (fun r_4 u t H locs ht hvm hw hP hz1 hk1 hS => ?_)
  obtain ⟨th_4, rfl⟩ : ∃ z, z = u := ⟨_, rfl⟩
  rw [ht] at hP; clear hz1 hk1 ht hvm
  try dsimp only at hw
  try dsimp only at hP
  refine lv_istore (lv' := [(5, .int r_4), (0, .ref (q 0)), (1, .int x1), (2, .int x2), (3, .int x3), (4, .int x4)]) hx hb dX7_pieces_7 hl (by decide) rfl (fun ls hl => ?_)
  refine lv_aload_n hx hb dX7_pieces_9 rfl (lv_at hl 1 rfl) ?_
  refine va_get (D := D) (ci := 7) (v := .int th_4) (C := RX7) (T := TX7) (N := 12) hx hb hg ku_X7 hown hK hP 0 rfl rfl 0 (by decide) (hg _ kf_X7_7) (fun _ h9 => h9) rfl dX7_pieces_10 ?_
  refine lv_if_ne (tgt := 32) hx hb dX7_pieces_13 (by decide) (fun hc13 => ?_) (fun hc13 => ?_)
  · have hw := hw.1 hc13
    exact mj_X7_pieces_32 C sz sd ss pr me ab be pi le sg wo post  _ _ _ _ _ _ hw hP hS (lv_sub hl [1, 5, 0] rfl)
  · have hw := hw.2 hc13
    refine lv_iload hx hb dX7_pieces_16 (lv_at hl 5 rfl) ?_
    refine lv_if_lt (tgt := 27) hx hb dX7_pieces_18 (by decide) (fun hc18 => ?_) (fun hc18 => ?_)
    · have hw := hw.1 hc18
      exact mj_X7_pieces_27 C sz sd ss pr me ab be pi le sg wo post  _ _ _ _ _ _ hw hP hS (lv_sub hl [1, 5, 0] rfl)
    · have hw := hw.2 hc18
      refine lv_iload hx hb dX7_pieces_21 (lv_at hl 5 rfl) ?_
      refine lv_iconst (v := 1) hx hb dX7_pieces_23 (by decide) ?_
      refine lv_icmp_le (tgt := 32) hx hb dX7_pieces_24 (by decide) (fun hc24 => ?_) (fun hc24 => ?_)
      · have hw := hw.1 hc24
        exact mj_X7_pieces_32 C sz sd ss pr me ab be pi le sg wo post  _ _ _ _ _ _ hw hP hS (lv_sub hl [1, 5, 0] rfl)
      · have hw := hw.2 hc24
        exact mj_X7_pieces_27 C sz sd ss pr me ab be pi le sg wo post  _ _ _ _ _ _ hw hP hS (lv_sub hl [1, 5, 0] rfl)
-- ===== ExactFilterModel.piece
abbrev rX7_piece : Room := { frames := 2, cells := 0, slots := 0, locals := 45 }
def wj_X7_piece_61 (sz : Int32) (sd : Int32) (me : Int32) (pi : Nat → Int32) (le : Nat → Int32) (post : Int32 → Int32 → Prop)  (th : Int32) (s0 : Int32) : Prop := post s0 th
def wj_X7_piece_37 (sz : Int32) (sd : Int32) (me : Int32) (pi : Nat → Int32) (le : Nat → Int32) (post : Int32 → Int32 → Prop)  (th : Int32) (x4 : Int32) (x5 : Int32) (x6 : Int32) : Prop := (th = 0 → wp_X7_digit pi le ((2 * x6) + x4) x5 (fun (r_58 : Int32) => wj_X7_piece_61 sz sd me pi le post  th r_58)) ∧ (¬ th = 0 → wj_X7_piece_61 sz sd me pi le post  th 0)
def wj_X7_piece_32 (sz : Int32) (sd : Int32) (me : Int32) (pi : Nat → Int32) (le : Nat → Int32) (post : Int32 → Int32 → Prop)  (th : Int32) (x4 : Int32) (x5 : Int32) (x6 : Int32) : Prop := wj_X7_piece_37 sz sd me pi le post  2 x4 x5 x6
def wp_X7_piece (th : Int32) (sz : Int32) (sd : Int32) (me : Int32) (pi : Nat → Int32) (le : Nat → Int32) (x1 : Int32) (x2 : Int32) (x3 : Int32) (x4 : Int32) (x5 : Int32) (post : Int32 → Int32 → Prop) : Prop := wp_X7_asked th sz sd me x1 x2 x3 (fun (r_4 : Int32) (th_4 : Int32) => (¬ th_4 = 0 → wj_X7_piece_37 sz sd me pi le post  th_4 x4 x5 r_4) ∧ (th_4 = 0 → (x4 < 0 → wj_X7_piece_32 sz sd me pi le post  th_4 x4 x5 r_4) ∧ (¬ x4 < 0 → (1 < x4 → wj_X7_piece_32 sz sd me pi le post  th_4 x4 x5 r_4) ∧ (¬ 1 < x4 → (0 ≤ x5 → wj_X7_piece_37 sz sd me pi le post  th_4 x4 x5 r_4) ∧ (¬ 0 ≤ x5 → wj_X7_piece_32 sz sd me pi le post  th_4 x4 x5 r_4)))))
set_option maxHeartbeats 4000000 in
set_option maxRecDepth 100000 in
theorem mj_X7_piece_61 (C : C7 p s m args meth c D cI q cX7_piece 7 (some .int)) (sz : Int32) (sd : Int32) (ss : Int32) (pr : Int32) (me : Int32) (ab : Nat → Int32) (be : Nat → Int32) (pi : Nat → Int32) (le : Nat → Int32) (sg : Nat → Int32) (wo : Nat → Int32) (post : Int32 → Int32 → Prop) 
    
    (th : Int32) (s0 : Int32) (H : Heap) (locs : List Loc) (ls : Array Slot) (hw : wj_X7_piece_61 sz sd me pi le post  th s0) (hP : va_P D vwCl (w7 cI q th sz sd ss pr me ab be pi le sg wo) H) (hS : va_S (A7 q) s.heap H locs) (hl : lv_has ls 7 []) : W p l e rX7_piece s m args below meth c H locs 0 0 (MQ below (va_Qi (S := Int32) (fun r u => post r u) (fun u t => va_P D vwCl (w7 cI q u sz sd ss pr me ab be pi le sg wo) t.heap) (A7 q)) args s 0 0 (A7 q)) (F0 m 61 ls [.int s0]) := by
  obtain ⟨hx, hb, hr, hml, hown, hg, hlocks, hK, hap⟩ := id C
  unfold wj_X7_piece_61 at hw
  exact W.iret (v := s0) hx hb hr (fun t ht hW => ⟨⟨s0, (th), rfl, hw, by show va_P D vwCl _ t.heap; rw [ht]; exact hP⟩, hS.F ht⟩) hS.2.2 dX7_piece_61 hlocks
set_option maxHeartbeats 4000000 in
set_option maxRecDepth 100000 in
theorem mj_X7_piece_37 (C : C7 p s m args meth c D cI q cX7_piece 7 (some .int)) (sz : Int32) (sd : Int32) (ss : Int32) (pr : Int32) (me : Int32) (ab : Nat → Int32) (be : Nat → Int32) (pi : Nat → Int32) (le : Nat → Int32) (sg : Nat → Int32) (wo : Nat → Int32) (post : Int32 → Int32 → Prop) 
    
    (th : Int32) (x4 : Int32) (x5 : Int32) (x6 : Int32) (H : Heap) (locs : List Loc) (ls : Array Slot) (hw : wj_X7_piece_37 sz sd me pi le post  th x4 x5 x6) (hP : va_P D vwCl (w7 cI q th sz sd ss pr me ab be pi le sg wo) H) (hS : va_S (A7 q) s.heap H locs) (hl : lv_has ls 7 [(0, .ref (q 0)), (4, .int x4), (5, .int x5), (6, .int x6)]) : W p l e rX7_piece s m args below meth c H locs 0 0 (MQ below (va_Qi (S := Int32) (fun r u => post r u) (fun u t => va_P D vwCl (w7 cI q u sz sd ss pr me ab be pi le sg wo) t.heap) (A7 q)) args s 0 0 (A7 q)) (F0 m 37 ls []) := by
  obtain ⟨hx, hb, hr, hml, hown, hg, hlocks, hK, hap⟩ := id C
  unfold wj_X7_piece_37 at hw
  refine lv_aload_n hx hb dX7_piece_37 rfl (lv_at hl 0 rfl) ?_
  refine va_get (D := D) (ci := 7) (v := .int th) (C := RX7) (T := TX7) (N := 12) hx hb hg ku_X7 hown hK hP 0 rfl rfl 0 (by decide) (hg _ kf_X7_7) (fun _ h9 => h9) rfl dX7_piece_38 ?_
  refine lv_if_eq (tgt := 48) hx hb dX7_piece_41 (by decide) (fun hc41 => ?_) (fun hc41 => ?_)
  · have hw := hw.1 hc41
    refine lv_aload_n hx hb dX7_piece_48 rfl (lv_at hl 0 rfl) ?_
    refine lv_iconst (v := 2) hx hb dX7_piece_49 (by decide) ?_
    refine lv_iload hx hb dX7_piece_50 (lv_at hl 3 rfl) ?_
    refine lv_imul hx hb dX7_piece_52 ?_
    refine lv_iload hx hb dX7_piece_53 (lv_at hl 1 rfl) ?_
    refine lv_iadd hx hb dX7_piece_55 ?_
    refine lv_iload hx hb dX7_piece_56 (lv_at hl 2 rfl) ?_
    refine va_calli (va_runV (As := [.int ((2 * x6) + x4), .int x5]) (rest := []) ⟨hx, hb, hml, hown, hg⟩ (m_X7_digit l D cI q th sz sd ss pr me ab be pi le sg wo ((2 * x6) + x4) x5 _ hw) (cwV 2 hg (x_gV km_X7_62 ki_X7_digit kz_X7_X7_digit kn_X7 kk_X7_digit) rfl rfl rfl (by decide +kernel) ⟨Nat.le_of_ble_eq_true rfl, Nat.le_of_ble_eq_true rfl⟩) (pre7V hP hK hap [.int ((2 * x6) + x4), .int x5]) rfl rfl hl.1 rfl (lv_room (Nat.le_of_ble_eq_true rfl)) dX7_piece_58 ⟨Nat.zero_le _, Nat.zero_le _⟩) hS (fun _ _ h => h) (fun _ h => h) (fun r_58 u t H locs ht hvm hw hP hz1 hk1 hS => ?_)
    rw [ht] at hP; clear hz1 hk1 ht hvm
    try dsimp only at hw
    try dsimp only at hP
    exact mj_X7_piece_61 C sz sd ss pr me ab be pi le sg wo post  _ _ _ _ _ hw hP hS (lv_sub hl [] rfl)
  · have hw := hw.2 hc41
    refine lv_iconst (v := 0) hx hb dX7_piece_44 (by decide) ?_
    refine lv_goto (tgt := 61) hx hb dX7_piece_45 (by decide) ?_
    exact mj_X7_piece_61 C sz sd ss pr me ab be pi le sg wo post  _ _ _ _ _ hw hP hS (lv_sub hl [] rfl)
set_option maxHeartbeats 4000000 in
set_option maxRecDepth 100000 in
theorem mj_X7_piece_32 (C : C7 p s m args meth c D cI q cX7_piece 7 (some .int)) (sz : Int32) (sd : Int32) (ss : Int32) (pr : Int32) (me : Int32) (ab : Nat → Int32) (be : Nat → Int32) (pi : Nat → Int32) (le : Nat → Int32) (sg : Nat → Int32) (wo : Nat → Int32) (post : Int32 → Int32 → Prop) 
    
    (th : Int32) (x4 : Int32) (x5 : Int32) (x6 : Int32) (H : Heap) (locs : List Loc) (ls : Array Slot) (hw : wj_X7_piece_32 sz sd me pi le post  th x4 x5 x6) (hP : va_P D vwCl (w7 cI q th sz sd ss pr me ab be pi le sg wo) H) (hS : va_S (A7 q) s.heap H locs) (hl : lv_has ls 7 [(0, .ref (q 0)), (4, .int x4), (5, .int x5), (6, .int x6)]) : W p l e rX7_piece s m args below meth c H locs 0 0 (MQ below (va_Qi (S := Int32) (fun r u => post r u) (fun u t => va_P D vwCl (w7 cI q u sz sd ss pr me ab be pi le sg wo) t.heap) (A7 q)) args s 0 0 (A7 q)) (F0 m 32 ls []) := by
  obtain ⟨hx, hb, hr, hml, hown, hg, hlocks, hK, hap⟩ := id C
  unfold wj_X7_piece_32 at hw
  refine lv_aload_n hx hb dX7_piece_32 rfl (lv_at hl 0 rfl) ?_
  refine lv_iconst (v := 2) hx hb dX7_piece_33 (by decide) ?_
  refine va_put (D := D) (ci := 7) (v := .int 2) (ty := .int) (C := RX7) (T := TX7) (N := 12) hx hb hg ku_X7 tyX7 tyX7_ok nmX7 hown hK hP (D7 hap) hS 0 rfl rfl 0 (by decide) (hg _ kf_X7_7) (fun _ h9 => h9) rfl (by decide +kernel) rfl rfl (Nat.le_of_ble_eq_true rfl) dX7_piece_34 (fun H locs hP _ hS => ?_)
  have hP : va_P D vwCl (w7 cI q 2 sz sd ss pr me ab be pi le sg wo) H := hP
  exact mj_X7_piece_37 C sz sd ss pr me ab be pi le sg wo post  _ _ _ _ _ _ _ hw hP hS (lv_sub hl [0, 1, 2, 3] rfl)
set_option maxHeartbeats 4000000 in
set_option maxRecDepth 100000 in
theorem m_X7_piece (l : Launch) (D : va_G) (cI : ClassId) (q : Nat → Nat) (th : Int32) (sz : Int32) (sd : Int32) (ss : Int32) (pr : Int32) (me : Int32) (ab : Nat → Int32) (be : Nat → Int32) (pi : Nat → Int32) (le : Nat → Int32) (sg : Nat → Int32) (wo : Nat → Int32) (x1 : Int32) (x2 : Int32) (x3 : Int32) (x4 : Int32) (x5 : Int32) (post : Int32 → Int32 → Prop) (hw : wp_X7_piece th sz sd me pi le x1 x2 x3 x4 x5 post) : Met l yX7_piece (wu yX7_piece cX7_piece 7 (some .int)) rX7_piece (va_Pc [.ref (q 0), .int x1, .int x2, .int x3, .int x4, .int x5] (fun U => va_P D vwCl (w7 cI q th sz sd ss pr me ab be pi le sg wo) U.heap ∧ K7 D cI q U)) (va_Qi (S := Int32) (fun r u => post r u) (fun u t => va_P D vwCl (w7 cI q u sz sd ss pr me ab be pi le sg wo) t.heap) (A7 q)) 0 0 (A7 q) := by
  refine Met.ofW (cc := cX7_piece) (maxL := 7) (ret := (some .int)) (by decide) rfl ?_
  intro p e s m args below meth c s₁ B hml hv
  obtain ⟨rfl, hP, hK, hap⟩ := hv
  have C : C7 p s m _ meth c D cI q cX7_piece 7 (some .int) := ⟨B.exec, B.bytes, B.returns, hml, findClass_of_methodNamed B.named, x_hg (atoms_spec (ws := wu yX7_piece cX7_piece 7 (some .int)) B.pre), B.notSynchronized, hK, hap⟩
  obtain ⟨hx, hb, hr, hml, hown, hg, hlocks, hK, hap⟩ := id C
  have hS : va_S (A7 q) s.heap s.heap [] := va_S.rf
  have hl := lv_entry ([.ref (q 0), .int x1, .int x2, .int x3, .int x4, .int x5]) (n := 7) (Nat.le_of_ble_eq_true rfl)
  rw [lg_entry_eq]
  generalize (lg_sl ([.ref (q 0), .int x1, .int x2, .int x3, .int x4, .int x5]) ++ List.replicate (7 - (lg_sl ([.ref (q 0), .int x1, .int x2, .int x3, .int x4, .int x5])).length) Slot.unset).toArray = ls at hl ⊢
  have hl : lv_has ls 7 [(0, .ref (q 0)), (1, .int x1), (2, .int x2), (3, .int x3), (4, .int x4), (5, .int x5)] := hl
  unfold wp_X7_piece at hw
  refine lv_aload_n hx hb dX7_piece_0 rfl (lv_at hl 0 rfl) ?_
  refine lv_iload_n hx hb dX7_piece_1 rfl (lv_at hl 1 rfl) ?_
  refine lv_iload_n hx hb dX7_piece_2 rfl (lv_at hl 2 rfl) ?_
  refine lv_iload_n hx hb dX7_piece_3 rfl (lv_at hl 3 rfl) ?_
  refine va_calli (va_runV (As := [.int x1, .int x2, .int x3]) (rest := []) ⟨hx, hb, hml, hown, hg⟩ (m_X7_asked l D cI q th sz sd ss pr me ab be pi le sg wo x1 x2 x3 _ hw) (cwV 3 hg (x_gV km_X7_158 ki_X7_asked kz_X7_X7_asked kn_X7 kk_X7_asked) rfl rfl rfl (by decide +kernel) ⟨Nat.le_of_ble_eq_true rfl, Nat.le_of_ble_eq_true rfl⟩) (pre7V hP hK hap [.int x1, .int x2, .int x3]) rfl rfl hl.1 rfl (lv_room (Nat.le_of_ble_eq_true rfl)) dX7_piece_4 ⟨Nat.zero_le _, Nat.zero_le _⟩) hS (fun _ _ h => h) (fun _ h => h) (fun r_4 u t H locs ht hvm hw hP hz1 hk1 hS => ?_)
  obtain ⟨th_4, rfl⟩ : ∃ z, z = u := ⟨_, rfl⟩
  rw [ht] at hP; clear hz1 hk1 ht hvm
  try dsimp only at hw
  try dsimp only at hP
  refine lv_istore (lv' := [(6, .int r_4), (0, .ref (q 0)), (1, .int x1), (2, .int x2), (3, .int x3), (4, .int x4), (5, .int x5)]) hx hb dX7_piece_7 hl (by decide) rfl (fun ls hl => ?_)
  refine lv_aload_n hx hb dX7_piece_9 rfl (lv_at hl 1 rfl) ?_
  refine va_get (D := D) (ci := 7) (v := .int th_4) (C := RX7) (T := TX7) (N := 12) hx hb hg ku_X7 hown hK hP 0 rfl rfl 0 (by decide) (hg _ kf_X7_7) (fun _ h9 => h9) rfl dX7_piece_10 ?_
  refine lv_if_ne (tgt := 37) hx hb dX7_piece_13 (by decide) (fun hc13 => ?_) (fun hc13 => ?_)
  · have hw := hw.1 hc13
    exact mj_X7_piece_37 C sz sd ss pr me ab be pi le sg wo post  _ _ _ _ _ _ _ hw hP hS (lv_sub hl [1, 5, 6, 0] rfl)
  · have hw := hw.2 hc13
    refine lv_iload hx hb dX7_piece_16 (lv_at hl 5 rfl) ?_
    refine lv_if_lt (tgt := 32) hx hb dX7_piece_18 (by decide) (fun hc18 => ?_) (fun hc18 => ?_)
    · have hw := hw.1 hc18
      exact mj_X7_piece_32 C sz sd ss pr me ab be pi le sg wo post  _ _ _ _ _ _ _ hw hP hS (lv_sub hl [1, 5, 6, 0] rfl)
    · have hw := hw.2 hc18
      refine lv_iload hx hb dX7_piece_21 (lv_at hl 5 rfl) ?_
      refine lv_iconst (v := 1) hx hb dX7_piece_23 (by decide) ?_
      refine lv_icmp_gt (tgt := 32) hx hb dX7_piece_24 (by decide) (fun hc24 => ?_) (fun hc24 => ?_)
      · have hw := hw.1 hc24
        exact mj_X7_piece_32 C sz sd ss pr me ab be pi le sg wo post  _ _ _ _ _ _ _ hw hP hS (lv_sub hl [1, 5, 6, 0] rfl)
      · have hw := hw.2 hc24
        refine lv_iload hx hb dX7_piece_27 (lv_at hl 6 rfl) ?_
        refine lv_if_ge (tgt := 37) hx hb dX7_piece_29 (by decide) (fun hc29 => ?_) (fun hc29 => ?_)
        · have hw := hw.1 hc29
          exact mj_X7_piece_37 C sz sd ss pr me ab be pi le sg wo post  _ _ _ _ _ _ _ hw hP hS (lv_sub hl [1, 5, 6, 0] rfl)
        · have hw := hw.2 hc29
          exact mj_X7_piece_32 C sz sd ss pr me ab be pi le sg wo post  _ _ _ _ _ _ _ hw hP hS (lv_sub hl [1, 5, 6, 0] rfl)
-- ===== ExactFilterModel.scaled
abbrev rX7_scaled : Room := { frames := 3, cells := 0, slots := 0, locals := 80 }
def wl_X7_scaled_108 (sz : Int32) (sd : Int32) (me : Int32) (sg : Nat → Int32) (post : Int64 → Int32 → (Nat → Int32) → (Nat → Int32) → (Nat → Int32) → Prop) (K136 : Int32 → (Nat → Int32) → (Nat → Int32) → (Nat → Int32) → Int32 → Int32 → Int64 → Prop) : Nat → Int32 → (Nat → Int32) → (Nat → Int32) → (Nat → Int32) → Int32 → Int32 → Int64 → Int32 → Prop
  | 0, _, _, _, _, _, _, _, _ => False
  | n + 1, th, pi, le, wo, x5, x6, x7, x9 => (x9 < 0 → K136 th pi le wo x5 x6 x7) ∧ (¬ x9 < 0 → wp_X7_digit pi le 60 x9 (fun (r_123 : Int32) => ∀ (x7_128 : Int64), x7_128 = ((x7 <<< ((16 : Int32).toInt64 &&& 63)) ||| ((r_123 : Int32).toInt64)) → ∀ (x9_130 : Int32), x9_130 = x9 + (-1) → wl_X7_scaled_108 sz sd me sg post K136 n th pi le wo x5 x6 x7_128 x9_130))
def wj_X7_scaled_226 (sz : Int32) (sd : Int32) (me : Int32) (sg : Nat → Int32) (post : Int64 → Int32 → (Nat → Int32) → (Nat → Int32) → (Nat → Int32) → Prop)  (th : Int32) (pi : Nat → Int32) (le : Nat → Int32) (wo : Nat → Int32) (s0 : Int64) : Prop := post s0 th pi le wo
def wj_X7_scaled_208 (sz : Int32) (sd : Int32) (me : Int32) (sg : Nat → Int32) (post : Int64 → Int32 → (Nat → Int32) → (Nat → Int32) → (Nat → Int32) → Prop)  (th : Int32) (pi : Nat → Int32) (le : Nat → Int32) (wo : Nat → Int32) (x5 : Int32) (x7 : Int64) : Prop := vp_in x5 24 ∧ (0 ≤ (sg (x5 : Int32).toNatClampNeg) → wj_X7_scaled_226 sz sd me sg post  th pi le wo x7) ∧ (¬ 0 ≤ (sg (x5 : Int32).toNatClampNeg) → wj_X7_scaled_226 sz sd me sg post  th pi le wo (-x7))
def wj_X7_scaled_194 (sz : Int32) (sd : Int32) (me : Int32) (sg : Nat → Int32) (post : Int64 → Int32 → (Nat → Int32) → (Nat → Int32) → (Nat → Int32) → Prop)  (th : Int32) (pi : Nat → Int32) (le : Nat → Int32) (wo : Nat → Int32) (x5 : Int32) (x7 : Int64) : Prop := (x7 ≤ 1000000000000000000 → wj_X7_scaled_208 sz sd me sg post  th pi le wo x5 x7) ∧ (¬ x7 ≤ 1000000000000000000 → wj_X7_scaled_208 sz sd me sg post  th pi le wo x5 1000000000000000000)
def wj_X7_scaled_168 (sz : Int32) (sd : Int32) (me : Int32) (sg : Nat → Int32) (post : Int64 → Int32 → (Nat → Int32) → (Nat → Int32) → (Nat → Int32) → Prop)  (th : Int32) (pi : Nat → Int32) (le : Nat → Int32) (wo : Nat → Int32) (x5 : Int32) (x6 : Int32) (x7 : Int64) (s0 : Int32) : Prop := (s0 = 0 → (x6 = 0 → wj_X7_scaled_194 sz sd me sg post  th pi le wo x5 x7) ∧ (¬ x6 = 0 → ∀ (x7_192 : Int64), x7_192 = (x7 + 1) → wj_X7_scaled_194 sz sd me sg post  th pi le wo x5 x7_192)) ∧ (¬ s0 = 0 → wj_X7_scaled_194 sz sd me sg post  th pi le wo x5 1000000000000000000)
def wj_X7_scaled_163 (sz : Int32) (sd : Int32) (me : Int32) (sg : Nat → Int32) (post : Int64 → Int32 → (Nat → Int32) → (Nat → Int32) → (Nat → Int32) → Prop)  (th : Int32) (pi : Nat → Int32) (le : Nat → Int32) (wo : Nat → Int32) (x5 : Int32) (x6 : Int32) (x7 : Int64) : Prop := wj_X7_scaled_168 sz sd me sg post  th pi le wo x5 x6 x7 1
def wj_X7_scaled_100 (sz : Int32) (sd : Int32) (me : Int32) (sg : Nat → Int32) (post : Int64 → Int32 → (Nat → Int32) → (Nat → Int32) → (Nat → Int32) → Prop)  (th : Int32) (pi : Nat → Int32) (le : Nat → Int32) (wo : Nat → Int32) (x5 : Int32) (s0 : Int32) : Prop := ∃ n108 : Nat, wl_X7_scaled_108 sz sd me sg post (fun (th : Int32) (pi : Nat → Int32) (le : Nat → Int32) (wo : Nat → Int32) (x5 : Int32) (x6 : Int32) (x7 : Int64) => vp_in 60 64 ∧ (4 < (le (60 : Int32).toNatClampNeg) → wj_X7_scaled_163 sz sd me sg post  th pi le wo x5 x6 x7) ∧ (¬ 4 < (le (60 : Int32).toNatClampNeg) → (x7 < 0 → wj_X7_scaled_163 sz sd me sg post  th pi le wo x5 x6 x7) ∧ (¬ x7 < 0 → (x7 ≤ 1000000000000000000 → wj_X7_scaled_168 sz sd me sg post  th pi le wo x5 x6 x7 0) ∧ (¬ x7 ≤ 1000000000000000000 → wj_X7_scaled_163 sz sd me sg post  th pi le wo x5 x6 x7)))) n108 th pi le wo x5 s0 0 3
def wj_X7_scaled_99 (sz : Int32) (sd : Int32) (me : Int32) (sg : Nat → Int32) (post : Int64 → Int32 → (Nat → Int32) → (Nat → Int32) → (Nat → Int32) → Prop)  (th : Int32) (pi : Nat → Int32) (le : Nat → Int32) (wo : Nat → Int32) (x5 : Int32) : Prop := wj_X7_scaled_100 sz sd me sg post  th pi le wo x5 0
def wj_X7_scaled_34 (sz : Int32) (sd : Int32) (me : Int32) (sg : Nat → Int32) (post : Int64 → Int32 → (Nat → Int32) → (Nat → Int32) → (Nat → Int32) → Prop)  (th : Int32) (pi : Nat → Int32) (le : Nat → Int32) (wo : Nat → Int32) (x4 : Int32) (x5 : Int32) : Prop := (th = 0 → wp_X7_small pi le wo 56 x4 (fun (pi_48 : Nat → Int32) (le_48 : Nat → Int32) (wo_48 : Nat → Int32) => wp_X7_times pi_48 le_48 wo_48 57 (2 * x5) 56 (fun (pi_60 : Nat → Int32) (le_60 : Nat → Int32) (wo_60 : Nat → Int32) => wp_X7_divide pi_60 le_60 wo_60 57 ((2 * x5) + 1) (fun (pi_72 : Nat → Int32) (le_72 : Nat → Int32) (wo_72 : Nat → Int32) => vp_in x5 24 ∧ (0 ≤ (sg (x5 : Int32).toNatClampNeg) → wj_X7_scaled_99 sz sd me sg post  th pi_72 le_72 wo_72 x5) ∧ (¬ 0 ≤ (sg (x5 : Int32).toNatClampNeg) → vp_in 61 64 ∧ ((le_72 (61 : Int32).toNatClampNeg) ≤ 0 → wj_X7_scaled_99 sz sd me sg post  th pi_72 le_72 wo_72 x5) ∧ (¬ (le_72 (61 : Int32).toNatClampNeg) ≤ 0 → wj_X7_scaled_100 sz sd me sg post  th pi_72 le_72 wo_72 x5 1)))))) ∧ (¬ th = 0 → post 0 th pi le wo)
def wj_X7_scaled_29 (sz : Int32) (sd : Int32) (me : Int32) (sg : Nat → Int32) (post : Int64 → Int32 → (Nat → Int32) → (Nat → Int32) → (Nat → Int32) → Prop)  (th : Int32) (pi : Nat → Int32) (le : Nat → Int32) (wo : Nat → Int32) (x4 : Int32) (x5 : Int32) : Prop := wj_X7_scaled_34 sz sd me sg post  2 pi le wo x4 x5
def wp_X7_scaled (th : Int32) (sz : Int32) (sd : Int32) (me : Int32) (pi : Nat → Int32) (le : Nat → Int32) (sg : Nat → Int32) (wo : Nat → Int32) (x1 : Int32) (x2 : Int32) (x3 : Int32) (x4 : Int32) (post : Int64 → Int32 → (Nat → Int32) → (Nat → Int32) → (Nat → Int32) → Prop) : Prop := wp_X7_asked th sz sd me x1 x2 x3 (fun (r_4 : Int32) (th_4 : Int32) => (¬ th_4 = 0 → wj_X7_scaled_34 sz sd me sg post  th_4 pi le wo x4 r_4) ∧ (th_4 = 0 → (x4 < 1 → wj_X7_scaled_29 sz sd me sg post  th_4 pi le wo x4 r_4) ∧ (¬ x4 < 1 → (x4 ≤ 1000000 → wj_X7_scaled_34 sz sd me sg post  th_4 pi le wo x4 r_4) ∧ (¬ x4 ≤ 1000000 → wj_X7_scaled_29 sz sd me sg post  th_4 pi le wo x4 r_4))))
set_option maxHeartbeats 4000000 in
set_option maxRecDepth 100000 in
theorem ml_X7_scaled_108 (C : C7 p s m args meth c D cI q cX7_scaled 10 (some .long)) (sz : Int32) (sd : Int32) (ss : Int32) (pr : Int32) (me : Int32) (ab : Nat → Int32) (be : Nat → Int32) (sg : Nat → Int32) (post : Int64 → Int32 → (Nat → Int32) → (Nat → Int32) → (Nat → Int32) → Prop) (K136 : Int32 → (Nat → Int32) → (Nat → Int32) → (Nat → Int32) → Int32 → Int32 → Int64 → Prop)
    (hK136 : (∀ (th : Int32) (pi : Nat → Int32) (le : Nat → Int32) (wo : Nat → Int32) (x5 : Int32) (x6 : Int32) (x7 : Int64) (H : Heap) (locs : List Loc) (ls : Array Slot), K136 th pi le wo x5 x6 x7 → va_P D vwCl (w7 cI q th sz sd ss pr me ab be pi le sg wo) H → va_S (A7 q) s.heap H locs → lv_has ls 10 [(0, .ref (q 0)), (5, .int x5), (6, .int x6), (7, .long x7)] → W p l e rX7_scaled s m args below meth c H locs 0 0 (MQ below (va_Ql (S := Int32 × (Nat → Int32) × (Nat → Int32) × (Nat → Int32)) (fun r u => post r u.1 u.2.1 u.2.2.1 u.2.2.2) (fun u t => va_P D vwCl (w7 cI q u.1 sz sd ss pr me ab be u.2.1 u.2.2.1 sg u.2.2.2) t.heap) (A7 q)) args s 0 0 (A7 q)) (F0 m 136 ls []))) :
    ∀ (n : Nat) (th : Int32) (pi : Nat → Int32) (le : Nat → Int32) (wo : Nat → Int32) (x5 : Int32) (x6 : Int32) (x7 : Int64) (x9 : Int32) (H : Heap) (locs : List Loc) (ls : Array Slot), wl_X7_scaled_108 sz sd me sg post K136 n th pi le wo x5 x6 x7 x9 → va_P D vwCl (w7 cI q th sz sd ss pr me ab be pi le sg wo) H → va_S (A7 q) s.heap H locs → lv_has ls 10 [(0, .ref (q 0)), (5, .int x5), (6, .int x6), (7, .long x7), (9, .int x9)] → W p l e rX7_scaled s m args below meth c H locs 0 0 (MQ below (va_Ql (S := Int32 × (Nat → Int32) × (Nat → Int32) × (Nat → Int32)) (fun r u => post r u.1 u.2.1 u.2.2.1 u.2.2.2) (fun u t => va_P D vwCl (w7 cI q u.1 sz sd ss pr me ab be u.2.1 u.2.2.1 sg u.2.2.2) t.heap) (A7 q)) args s 0 0 (A7 q)) (F0 m 108 ls []) := by
  obtain ⟨hx, hb, hr, hml, hown, hg, hlocks, hK, hap⟩ := id C
  intro n
  induction n with
  | zero => intro th pi le wo x5 x6 x7 x9 H locs ls hw; exact absurd hw id
  | succ n ih =>
    intro th pi le wo x5 x6 x7 x9 H locs ls hw hP hS hl
    refine lv_iload hx hb dX7_scaled_108 (lv_at hl 4 rfl) ?_
    refine lv_if_lt (tgt := 136) hx hb dX7_scaled_110 (by decide) (fun hc110 => ?_) (fun hc110 => ?_)
    · have hw := hw.1 hc110
      exact hK136 _ _ _ _ _ _ _ _ _ _ hw hP hS (lv_sub hl [0, 1, 2, 3] rfl)
    · have hw := hw.2 hc110
      refine lv_lload hx hb dX7_scaled_113 (lv_at hl 3 rfl) ?_
      refine lv_bipush (v := 16) hx hb dX7_scaled_115 (by decide) ?_
      refine lv_lshl (v := (x7 <<< ((16 : Int32).toInt64 &&& 63))) hx hb dX7_scaled_117 rfl ?_
      refine lv_aload_n hx hb dX7_scaled_118 rfl (lv_at hl 0 rfl) ?_
      refine lv_bipush (v := 60) hx hb dX7_scaled_119 (by decide) ?_
      refine lv_iload hx hb dX7_scaled_121 (lv_at hl 4 rfl) ?_
      refine va_calli (va_runV (As := [.int 60, .int x9]) (rest := [.long (x7 <<< ((16 : Int32).toInt64 &&& 63))]) ⟨hx, hb, hml, hown, hg⟩ (m_X7_digit l D cI q th sz sd ss pr me ab be pi le sg wo 60 x9 _ hw) (cwV 2 hg (x_gV km_X7_62 ki_X7_digit kz_X7_X7_digit kn_X7 kk_X7_digit) rfl rfl rfl (by decide +kernel) ⟨Nat.le_of_ble_eq_true rfl, Nat.le_of_ble_eq_true rfl⟩) (pre7V hP hK hap [.int 60, .int x9]) rfl rfl hl.1 rfl (lv_room (Nat.le_of_ble_eq_true rfl)) dX7_scaled_123 ⟨Nat.zero_le _, Nat.zero_le _⟩) hS (fun _ _ h => h) (fun _ h => h) (fun r_123 u t H locs ht hvm hw hP hz1 hk1 hS => ?_)
      rw [ht] at hP; clear hz1 hk1 ht hvm
      try dsimp only at hw
      try dsimp only at hP
      refine lv_i2l (v := (r_123 : Int32).toInt64) hx hb dX7_scaled_126 rfl ?_
      refine lv_lor hx hb dX7_scaled_127 ?_
      refine lv_topl (fun x7_128 ex7_128 => ?_)
      have hw := hw x7_128 ex7_128
      refine lv_lstore (lv' := [(7, .long x7_128), (0, .ref (q 0)), (5, .int x5), (6, .int x6), (9, .int x9)]) hx hb dX7_scaled_128 hl (by decide) rfl (fun ls hl => ?_)
      obtain ⟨x9_130, ex9_130⟩ : ∃ y : Int32, y = x9 + (-1) := ⟨_, rfl⟩
      have hw := hw x9_130 ex9_130
      refine lv_iinc (v := x9_130) (lv' := [(9, .int x9_130), (7, .long x7_128), (0, .ref (q 0)), (5, .int x5), (6, .int x6)]) hx hb dX7_scaled_130 hl (k := 4) rfl (by rw [ex9_130]; rfl) (by decide) rfl (fun ls hl => ?_)
      refine lv_goto (tgt := 108) hx hb dX7_scaled_133 (by decide) ?_
      exact ih _ _ _ _ _ _ _ _ _ _ _ hw hP hS (lv_sub hl [2, 3, 4, 1, 0] rfl)
set_option maxHeartbeats 4000000 in
set_option maxRecDepth 100000 in
theorem mj_X7_scaled_226 (C : C7 p s m args meth c D cI q cX7_scaled 10 (some .long)) (sz : Int32) (sd : Int32) (ss : Int32) (pr : Int32) (me : Int32) (ab : Nat → Int32) (be : Nat → Int32) (sg : Nat → Int32) (post : Int64 → Int32 → (Nat → Int32) → (Nat → Int32) → (Nat → Int32) → Prop) 
    
    (th : Int32) (pi : Nat → Int32) (le : Nat → Int32) (wo : Nat → Int32) (s0 : Int64) (H : Heap) (locs : List Loc) (ls : Array Slot) (hw : wj_X7_scaled_226 sz sd me sg post  th pi le wo s0) (hP : va_P D vwCl (w7 cI q th sz sd ss pr me ab be pi le sg wo) H) (hS : va_S (A7 q) s.heap H locs) (hl : lv_has ls 10 []) : W p l e rX7_scaled s m args below meth c H locs 0 0 (MQ below (va_Ql (S := Int32 × (Nat → Int32) × (Nat → Int32) × (Nat → Int32)) (fun r u => post r u.1 u.2.1 u.2.2.1 u.2.2.2) (fun u t => va_P D vwCl (w7 cI q u.1 sz sd ss pr me ab be u.2.1 u.2.2.1 sg u.2.2.2) t.heap) (A7 q)) args s 0 0 (A7 q)) (F0 m 226 ls [.long s0]) := by
  obtain ⟨hx, hb, hr, hml, hown, hg, hlocks, hK, hap⟩ := id C
  unfold wj_X7_scaled_226 at hw
  exact W.lret (v := s0) hx hb hr (fun t ht hW => ⟨⟨s0, (th, pi, le, wo), rfl, hw, by show va_P D vwCl _ t.heap; rw [ht]; exact hP⟩, hS.F ht⟩) hS.2.2 dX7_scaled_226 hlocks
set_option maxHeartbeats 4000000 in
set_option maxRecDepth 100000 in
theorem mj_X7_scaled_208 (C : C7 p s m args meth c D cI q cX7_scaled 10 (some .long)) (sz : Int32) (sd : Int32) (ss : Int32) (pr : Int32) (me : Int32) (ab : Nat → Int32) (be : Nat → Int32) (sg : Nat → Int32) (post : Int64 → Int32 → (Nat → Int32) → (Nat → Int32) → (Nat → Int32) → Prop) 
    
    (th : Int32) (pi : Nat → Int32) (le : Nat → Int32) (wo : Nat → Int32) (x5 : Int32) (x7 : Int64) (H : Heap) (locs : List Loc) (ls : Array Slot) (hw : wj_X7_scaled_208 sz sd me sg post  th pi le wo x5 x7) (hP : va_P D vwCl (w7 cI q th sz sd ss pr me ab be pi le sg wo) H) (hS : va_S (A7 q) s.heap H locs) (hl : lv_has ls 10 [(0, .ref (q 0)), (5, .int x5), (7, .long x7)]) : W p l e rX7_scaled s m args below meth c H locs 0 0 (MQ below (va_Ql (S := Int32 × (Nat → Int32) × (Nat → Int32) × (Nat → Int32)) (fun r u => post r u.1 u.2.1 u.2.2.1 u.2.2.2) (fun u t => va_P D vwCl (w7 cI q u.1 sz sd ss pr me ab be u.2.1 u.2.2.1 sg u.2.2.2) t.heap) (A7 q)) args s 0 0 (A7 q)) (F0 m 208 ls []) := by
  obtain ⟨hx, hb, hr, hml, hown, hg, hlocks, hK, hap⟩ := id C
  unfold wj_X7_scaled_208 at hw
  refine lv_aload_n hx hb dX7_scaled_208 rfl (lv_at hl 0 rfl) ?_
  refine va_get (D := D) (ci := 7) (v := .ref (q 5)) (C := RX7) (T := TX7) (N := 12) hx hb hg ku_X7 hown hK hP 0 rfl rfl 10 (by decide) (hg _ kf_X7_43) (fun _ h9 => h9) rfl dX7_scaled_209 ?_
  refine lv_iload hx hb dX7_scaled_212 (lv_at hl 1 rfl) ?_
  obtain ⟨hi214, hw⟩ := hw
  refine va_iald (D := D) hx hb hK hP 5 0 rfl rfl hi214 dX7_scaled_214 ?_
  refine lv_if_ge (tgt := 224) hx hb dX7_scaled_215 (by decide) (fun hc215 => ?_) (fun hc215 => ?_)
  · have hw := hw.1 hc215
    refine lv_lload hx hb dX7_scaled_224 (lv_at hl 2 rfl) ?_
    exact mj_X7_scaled_226 C sz sd ss pr me ab be sg post  _ _ _ _ _ _ _ _ hw hP hS (lv_sub hl [] rfl)
  · have hw := hw.2 hc215
    refine lv_lload hx hb dX7_scaled_218 (lv_at hl 2 rfl) ?_
    refine lv_lneg hx hb dX7_scaled_220 ?_
    refine lv_goto (tgt := 226) hx hb dX7_scaled_221 (by decide) ?_
    exact mj_X7_scaled_226 C sz sd ss pr me ab be sg post  _ _ _ _ _ _ _ _ hw hP hS (lv_sub hl [] rfl)
set_option maxHeartbeats 4000000 in
set_option maxRecDepth 100000 in
theorem mj_X7_scaled_194 (C : C7 p s m args meth c D cI q cX7_scaled 10 (some .long)) (sz : Int32) (sd : Int32) (ss : Int32) (pr : Int32) (me : Int32) (ab : Nat → Int32) (be : Nat → Int32) (sg : Nat → Int32) (post : Int64 → Int32 → (Nat → Int32) → (Nat → Int32) → (Nat → Int32) → Prop) 
    
    (th : Int32) (pi : Nat → Int32) (le : Nat → Int32) (wo : Nat → Int32) (x5 : Int32) (x7 : Int64) (H : Heap) (locs : List Loc) (ls : Array Slot) (hw : wj_X7_scaled_194 sz sd me sg post  th pi le wo x5 x7) (hP : va_P D vwCl (w7 cI q th sz sd ss pr me ab be pi le sg wo) H) (hS : va_S (A7 q) s.heap H locs) (hl : lv_has ls 10 [(0, .ref (q 0)), (5, .int x5), (7, .long x7)]) : W p l e rX7_scaled s m args below meth c H locs 0 0 (MQ below (va_Ql (S := Int32 × (Nat → Int32) × (Nat → Int32) × (Nat → Int32)) (fun r u => post r u.1 u.2.1 u.2.2.1 u.2.2.2) (fun u t => va_P D vwCl (w7 cI q u.1 sz sd ss pr me ab be u.2.1 u.2.2.1 sg u.2.2.2) t.heap) (A7 q)) args s 0 0 (A7 q)) (F0 m 194 ls []) := by
  obtain ⟨hx, hb, hr, hml, hown, hg, hlocks, hK, hap⟩ := id C
  unfold wj_X7_scaled_194 at hw
  refine lv_lload hx hb dX7_scaled_194 (lv_at hl 2 rfl) ?_
  refine lv_ldc2 (v := 1000000000000000000) hx hb hown (hg _ kc_X7_162) dX7_scaled_196 ?_
  refine W.lcmp hx hb dX7_scaled_199 ?_
  refine lv_if_le (tgt := 208) hx hb dX7_scaled_200 (by decide) (fun hc200 => ?_) (fun hc200 => ?_)
  · have hw := hw.1 ((lg_cmp_le _ _).mp hc200)
    exact mj_X7_scaled_208 C sz sd ss pr me ab be sg post  _ _ _ _ _ _ _ _ _ hw hP hS (lv_sub hl [0, 1, 2] rfl)
  · have hw := hw.2 (fun z => hc200 ((lg_cmp_le _ _).mpr z))
    refine lv_ldc2 (v := 1000000000000000000) hx hb hown (hg _ kc_X7_162) dX7_scaled_203 ?_
    refine lv_lstore (lv' := [(7, .long 1000000000000000000), (0, .ref (q 0)), (5, .int x5)]) hx hb dX7_scaled_206 hl (by decide) rfl (fun ls hl => ?_)
    exact mj_X7_scaled_208 C sz sd ss pr me ab be sg post  _ _ _ _ _ _ _ _ _ hw hP hS (lv_sub hl [1, 2, 0] rfl)
set_option maxHeartbeats 4000000 in
set_option maxRecDepth 100000 in
theorem mj_X7_scaled_168 (C : C7 p s m args meth c D cI q cX7_scaled 10 (some .long)) (sz : Int32) (sd : Int32) (ss : Int32) (pr : Int32) (me : Int32) (ab : Nat → Int32) (be : Nat → Int32) (sg : Nat → Int32) (post : Int64 → Int32 → (Nat → Int32) → (Nat → Int32) → (Nat → Int32) → Prop) 
    
    (th : Int32) (pi : Nat → Int32) (le : Nat → Int32) (wo : Nat → Int32) (x5 : Int32) (x6 : Int32) (x7 : Int64) (s0 : Int32) (H : Heap) (locs : List Loc) (ls : Array Slot) (hw : wj_X7_scaled_168 sz sd me sg post  th pi le wo x5 x6 x7 s0) (hP : va_P D vwCl (w7 cI q th sz sd ss pr me ab be pi le sg wo) H) (hS : va_S (A7 q) s.heap H locs) (hl : lv_has ls 10 [(0, .ref (q 0)), (5, .int x5), (6, .int x6), (7, .long x7)]) : W p l e rX7_scaled s m args below meth c H locs 0 0 (MQ below (va_Ql (S := Int32 × (Nat → Int32) × (Nat → Int32) × (Nat → Int32)) (fun r u => post r u.1 u.2.1 u.2.2.1 u.2.2.2) (fun u t => va_P D vwCl (w7 cI q u.1 sz sd ss pr me ab be u.2.1 u.2.2.1 sg u.2.2.2) t.heap) (A7 q)) args s 0 0 (A7 q)) (F0 m 168 ls [.int s0]) := by
  obtain ⟨hx, hb, hr, hml, hown, hg, hlocks, hK, hap⟩ := id C
  unfold wj_X7_scaled_168 at hw
  refine lv_istore (lv' := [(9, .int s0), (0, .ref (q 0)), (5, .int x5), (6, .int x6), (7, .long x7)]) hx hb dX7_scaled_168 hl (by decide) rfl (fun ls hl => ?_)
  refine lv_iload hx hb dX7_scaled_170 (lv_at hl 0 rfl) ?_
  refine lv_if_eq (tgt := 183) hx hb dX7_scaled_172 (by decide) (fun hc172 => ?_) (fun hc172 => ?_)
  · have hw := hw.1 hc172
    refine lv_iload hx hb dX7_scaled_183 (lv_at hl 3 rfl) ?_
    refine lv_if_eq (tgt := 194) hx hb dX7_scaled_185 (by decide) (fun hc185 => ?_) (fun hc185 => ?_)
    · have hw := hw.1 hc185
      exact mj_X7_scaled_194 C sz sd ss pr me ab be sg post  _ _ _ _ _ _ _ _ _ hw hP hS (lv_sub hl [1, 2, 4] rfl)
    · have hw := hw.2 hc185
      refine lv_lload hx hb dX7_scaled_188 (lv_at hl 4 rfl) ?_
      refine lv_lconst (v := 1) hx hb dX7_scaled_190 (by decide) ?_
      refine lv_ladd hx hb dX7_scaled_191 ?_
      refine lv_topl (fun x7_192 ex7_192 => ?_)
      have hw := hw x7_192 ex7_192
      refine lv_lstore (lv' := [(7, .long x7_192), (9, .int s0), (0, .ref (q 0)), (5, .int x5), (6, .int x6)]) hx hb dX7_scaled_192 hl (by decide) rfl (fun ls hl => ?_)
      exact mj_X7_scaled_194 C sz sd ss pr me ab be sg post  _ _ _ _ _ _ _ _ _ hw hP hS (lv_sub hl [2, 3, 0] rfl)
  · have hw := hw.2 hc172
    refine lv_ldc2 (v := 1000000000000000000) hx hb hown (hg _ kc_X7_162) dX7_scaled_175 ?_
    refine lv_lstore (lv' := [(7, .long 1000000000000000000), (9, .int s0), (0, .ref (q 0)), (5, .int x5), (6, .int x6)]) hx hb dX7_scaled_178 hl (by decide) rfl (fun ls hl => ?_)
    refine lv_goto (tgt := 194) hx hb dX7_scaled_180 (by decide) ?_
    exact mj_X7_scaled_194 C sz sd ss pr me ab be sg post  _ _ _ _ _ _ _ _ _ hw hP hS (lv_sub hl [2, 3, 0] rfl)
set_option maxHeartbeats 4000000 in
set_option maxRecDepth 100000 in
theorem mj_X7_scaled_163 (C : C7 p s m args meth c D cI q cX7_scaled 10 (some .long)) (sz : Int32) (sd : Int32) (ss : Int32) (pr : Int32) (me : Int32) (ab : Nat → Int32) (be : Nat → Int32) (sg : Nat → Int32) (post : Int64 → Int32 → (Nat → Int32) → (Nat → Int32) → (Nat → Int32) → Prop) 
    
    (th : Int32) (pi : Nat → Int32) (le : Nat → Int32) (wo : Nat → Int32) (x5 : Int32) (x6 : Int32) (x7 : Int64) (H : Heap) (locs : List Loc) (ls : Array Slot) (hw : wj_X7_scaled_163 sz sd me sg post  th pi le wo x5 x6 x7) (hP : va_P D vwCl (w7 cI q th sz sd ss pr me ab be pi le sg wo) H) (hS : va_S (A7 q) s.heap H locs) (hl : lv_has ls 10 [(0, .ref (q 0)), (5, .int x5), (6, .int x6), (7, .long x7)]) : W p l e rX7_scaled s m args below meth c H locs 0 0 (MQ below (va_Ql (S := Int32 × (Nat → Int32) × (Nat → Int32) × (Nat → Int32)) (fun r u => post r u.1 u.2.1 u.2.2.1 u.2.2.2) (fun u t => va_P D vwCl (w7 cI q u.1 sz sd ss pr me ab be u.2.1 u.2.2.1 sg u.2.2.2) t.heap) (A7 q)) args s 0 0 (A7 q)) (F0 m 163 ls []) := by
  obtain ⟨hx, hb, hr, hml, hown, hg, hlocks, hK, hap⟩ := id C
  unfold wj_X7_scaled_163 at hw
  refine lv_iconst (v := 1) hx hb dX7_scaled_163 (by decide) ?_
  refine lv_goto (tgt := 168) hx hb dX7_scaled_164 (by decide) ?_
  exact mj_X7_scaled_168 C sz sd ss pr me ab be sg post  _ _ _ _ _ _ _ _ _ _ _ hw hP hS (lv_sub hl [0, 1, 2, 3] rfl)
set_option maxHeartbeats 4000000 in
set_option maxRecDepth 100000 in
theorem mj_X7_scaled_100 (C : C7 p s m args meth c D cI q cX7_scaled 10 (some .long)) (sz : Int32) (sd : Int32) (ss : Int32) (pr : Int32) (me : Int32) (ab : Nat → Int32) (be : Nat → Int32) (sg : Nat → Int32) (post : Int64 → Int32 → (Nat → Int32) → (Nat → Int32) → (Nat → Int32) → Prop) 
    
    (th : Int32) (pi : Nat → Int32) (le : Nat → Int32) (wo : Nat → Int32) (x5 : Int32) (s0 : Int32) (H : Heap) (locs : List Loc) (ls : Array Slot) (hw : wj_X7_scaled_100 sz sd me sg post  th pi le wo x5 s0) (hP : va_P D vwCl (w7 cI q th sz sd ss pr me ab be pi le sg wo) H) (hS : va_S (A7 q) s.heap H locs) (hl : lv_has ls 10 [(0, .ref (q 0)), (5, .int x5)]) : W p l e rX7_scaled s m args below meth c H locs 0 0 (MQ below (va_Ql (S := Int32 × (Nat → Int32) × (Nat → Int32) × (Nat → Int32)) (fun r u => post r u.1 u.2.1 u.2.2.1 u.2.2.2) (fun u t => va_P D vwCl (w7 cI q u.1 sz sd ss pr me ab be u.2.1 u.2.2.1 sg u.2.2.2) t.heap) (A7 q)) args s 0 0 (A7 q)) (F0 m 100 ls [.int s0]) := by
  obtain ⟨hx, hb, hr, hml, hown, hg, hlocks, hK, hap⟩ := id C
  unfold wj_X7_scaled_100 at hw
  refine lv_istore (lv' := [(6, .int s0), (0, .ref (q 0)), (5, .int x5)]) hx hb dX7_scaled_100 hl (by decide) rfl (fun ls hl => ?_)
  refine lv_lconst (v := 0) hx hb dX7_scaled_102 (by decide) ?_
  refine lv_lstore (lv' := [(7, .long 0), (6, .int s0), (0, .ref (q 0)), (5, .int x5)]) hx hb dX7_scaled_103 hl (by decide) rfl (fun ls hl => ?_)
  refine lv_iconst (v := 3) hx hb dX7_scaled_105 (by decide) ?_
  refine lv_istore (lv' := [(9, .int 3), (7, .long 0), (6, .int s0), (0, .ref (q 0)), (5, .int x5)]) hx hb dX7_scaled_106 hl (by decide) rfl (fun ls hl => ?_)
  obtain ⟨n108, hw⟩ := hw
  refine ml_X7_scaled_108 C sz sd ss pr me ab be sg post _ ?_ n108 _ _ _ _ _ _ _ _ _ _ _ hw hP hS (lv_sub hl [3, 4, 2, 1, 0] rfl)
  · intro th pi le wo x5 x6 x7 H locs ls hw hP hS hl
    refine lv_aload_n hx hb dX7_scaled_136 rfl (lv_at hl 0 rfl) ?_
    refine va_get (D := D) (ci := 7) (v := .ref (q 4)) (C := RX7) (T := TX7) (N := 12) hx hb hg ku_X7 hown hK hP 0 rfl rfl 9 (by decide) (hg _ kf_X7_40) (fun _ h9 => h9) rfl dX7_scaled_137 ?_
    refine lv_bipush (v := 60) hx hb dX7_scaled_140 (by decide) ?_
    obtain ⟨hi142, hw⟩ := hw
    refine va_iald (D := D) hx hb hK hP 4 0 rfl rfl hi142 dX7_scaled_142 ?_
    refine lv_iconst (v := 4) hx hb dX7_scaled_143 (by decide) ?_
    refine lv_icmp_gt (tgt := 163) hx hb dX7_scaled_144 (by decide) (fun hc144 => ?_) (fun hc144 => ?_)
    · have hw := hw.1 hc144
      exact mj_X7_scaled_163 C sz sd ss pr me ab be sg post  _ _ _ _ _ _ _ _ _ _ hw hP hS (lv_sub hl [0, 1, 2, 3] rfl)
    · have hw := hw.2 hc144
      refine lv_lload hx hb dX7_scaled_147 (lv_at hl 3 rfl) ?_
      refine lv_lconst (v := 0) hx hb dX7_scaled_149 (by decide) ?_
      refine W.lcmp hx hb dX7_scaled_150 ?_
      refine lv_if_lt (tgt := 163) hx hb dX7_scaled_151 (by decide) (fun hc151 => ?_) (fun hc151 => ?_)
      · have hw := hw.1 ((lg_cmp_lt _ _).mp hc151)
        exact mj_X7_scaled_163 C sz sd ss pr me ab be sg post  _ _ _ _ _ _ _ _ _ _ hw hP hS (lv_sub hl [0, 1, 2, 3] rfl)
      · have hw := hw.2 (fun z => hc151 ((lg_cmp_lt _ _).mpr z))
        refine lv_lload hx hb dX7_scaled_154 (lv_at hl 3 rfl) ?_
        refine lv_ldc2 (v := 1000000000000000000) hx hb hown (hg _ kc_X7_162) dX7_scaled_156 ?_
        refine W.lcmp hx hb dX7_scaled_159 ?_
        refine lv_if_le (tgt := 167) hx hb dX7_scaled_160 (by decide) (fun hc160 => ?_) (fun hc160 => ?_)
        · have hw := hw.1 ((lg_cmp_le _ _).mp hc160)
          refine lv_iconst (v := 0) hx hb dX7_scaled_167 (by decide) ?_
          exact mj_X7_scaled_168 C sz sd ss pr me ab be sg post  _ _ _ _ _ _ _ _ _ _ _ hw hP hS (lv_sub hl [0, 1, 2, 3] rfl)
        · have hw := hw.2 (fun z => hc160 ((lg_cmp_le _ _).mpr z))
          exact mj_X7_scaled_163 C sz sd ss pr me ab be sg post  _ _ _ _ _ _ _ _ _ _ hw hP hS (lv_sub hl [0, 1, 2, 3] rfl)
set_option maxHeartbeats 4000000 in
set_option maxRecDepth 100000 in
theorem mj_X7_scaled_99 (C : C7 p s m args meth c D cI q cX7_scaled 10 (some .long)) (sz : Int32) (sd : Int32) (ss : Int32) (pr : Int32) (me : Int32) (ab : Nat → Int32) (be : Nat → Int32) (sg : Nat → Int32) (post : Int64 → Int32 → (Nat → Int32) → (Nat → Int32) → (Nat → Int32) → Prop) 
    
    (th : Int32) (pi : Nat → Int32) (le : Nat → Int32) (wo : Nat → Int32) (x5 : Int32) (H : Heap) (locs : List Loc) (ls : Array Slot) (hw : wj_X7_scaled_99 sz sd me sg post  th pi le wo x5) (hP : va_P D vwCl (w7 cI q th sz sd ss pr me ab be pi le sg wo) H) (hS : va_S (A7 q) s.heap H locs) (hl : lv_has ls 10 [(0, .ref (q 0)), (5, .int x5)]) : W p l e rX7_scaled s m args below meth c H locs 0 0 (MQ below (va_Ql (S := Int32 × (Nat → Int32) × (Nat → Int32) × (Nat → Int32)) (fun r u => post r u.1 u.2.1 u.2.2.1 u.2.2.2) (fun u t => va_P D vwCl (w7 cI q u.1 sz sd ss pr me ab be u.2.1 u.2.2.1 sg u.2.2.2) t.heap) (A7 q)) args s 0 0 (A7 q)) (F0 m 99 ls []) := by
  obtain ⟨hx, hb, hr, hml, hown, hg, hlocks, hK, hap⟩ := id C
  unfold wj_X7_scaled_99 at hw
  refine lv_iconst (v := 0) hx hb dX7_scaled_99 (by decide) ?_
  exact mj_X7_scaled_100 C sz sd ss pr me ab be sg post  _ _ _ _ _ _ _ _ _ hw hP hS (lv_sub hl [0, 1] rfl)
set_option maxHeartbeats 4000000 in
set_option maxRecDepth 100000 in
theorem mj_X7_scaled_34 (C : C7 p s m args meth c D cI q cX7_scaled 10 (some .long)) (sz : Int32) (sd : Int32) (ss : Int32) (pr : Int32) (me : Int32) (ab : Nat → Int32) (be : Nat → Int32) (sg : Nat → Int32) (post : Int64 → Int32 → (Nat → Int32) → (Nat → Int32) → (Nat → Int32) → Prop) 
    
    (th : Int32) (pi : Nat → Int32) (le : Nat → Int32) (wo : Nat → Int32) (x4 : Int32) (x5 : Int32) (H : Heap) (locs : List Loc) (ls : Array Slot) (hw : wj_X7_scaled_34 sz sd me sg post  th pi le wo x4 x5) (hP : va_P D vwCl (w7 cI q th sz sd ss pr me ab be pi le sg wo) H) (hS : va_S (A7 q) s.heap H locs) (hl : lv_has ls 10 [(0, .ref (q 0)), (4, .int x4), (5, .int x5)]) : W p l e rX7_scaled s m args below meth c H locs 0 0 (MQ below (va_Ql (S := Int32 × (Nat → Int32) × (Nat → Int32) × (Nat → Int32)) (fun r u => post r u.1 u.2.1 u.2.2.1 u.2.2.2) (fun u t => va_P D vwCl (w7 cI q u.1 sz sd ss pr me ab be u.2.1 u.2.2.1 sg u.2.2.2) t.heap) (A7 q)) args s 0 0 (A7 q)) (F0 m 34 ls []) := by
  obtain ⟨hx, hb, hr, hml, hown, hg, hlocks, hK, hap⟩ := id C
  unfold wj_X7_scaled_34 at hw
  refine lv_aload_n hx hb dX7_scaled_34 rfl (lv_at hl 0 rfl) ?_
  refine va_get (D := D) (ci := 7) (v := .int th) (C := RX7) (T := TX7) (N := 12) hx hb hg ku_X7 hown hK hP 0 rfl rfl 0 (by decide) (hg _ kf_X7_7) (fun _ h9 => h9) rfl dX7_scaled_35 ?_
  refine lv_if_eq (tgt := 43) hx hb dX7_scaled_38 (by decide) (fun hc38 => ?_) (fun hc38 => ?_)
  · have hw := hw.1 hc38
    refine lv_aload_n hx hb dX7_scaled_43 rfl (lv_at hl 0 rfl) ?_
    refine lv_bipush (v := 56) hx hb dX7_scaled_44 (by decide) ?_
    refine lv_iload hx hb dX7_scaled_46 (lv_at hl 1 rfl) ?_
    refine va_callv (va_runV (As := [.int 56, .int x4]) (rest := []) ⟨hx, hb, hml, hown, hg⟩ (m_X7_small l D cI q th sz sd ss pr me ab be pi le sg wo 56 x4 _ hw) (cwV 2 hg (x_gV km_X7_99 ki_X7_small kz_X7_X7_small kn_X7 kk_X7_small) rfl rfl rfl (by decide +kernel) ⟨Nat.le_of_ble_eq_true rfl, Nat.le_of_ble_eq_true rfl⟩) (pre7V hP hK hap [.int 56, .int x4]) rfl rfl hl.1 rfl (lv_room (Nat.le_of_ble_eq_true rfl)) dX7_scaled_48 ⟨Nat.zero_le _, Nat.zero_le _⟩) hS (fun _ _ h => h) (fun _ h => h) (fun  u t H locs ht hvm hw hP hz1 hk1 hS => ?_)
    obtain ⟨pi_48, le_48, wo_48⟩ := u
    rw [ht] at hP; clear hz1 hk1 ht hvm
    try dsimp only at hw
    try dsimp only at hP
    refine lv_aload_n hx hb dX7_scaled_51 rfl (lv_at hl 0 rfl) ?_
    refine lv_bipush (v := 57) hx hb dX7_scaled_52 (by decide) ?_
    refine lv_iconst (v := 2) hx hb dX7_scaled_54 (by decide) ?_
    refine lv_iload hx hb dX7_scaled_55 (lv_at hl 2 rfl) ?_
    refine lv_imul hx hb dX7_scaled_57 ?_
    refine lv_bipush (v := 56) hx hb dX7_scaled_58 (by decide) ?_
    refine va_callv (va_runV (As := [.int 57, .int (2 * x5), .int 56]) (rest := []) ⟨hx, hb, hml, hown, hg⟩ (m_X7_times l D cI q th sz sd ss pr me ab be pi_48 le_48 sg wo_48 57 (2 * x5) 56 _ hw) (cwV 3 hg (x_gV km_X7_108 ki_X7_times kz_X7_X7_times kn_X7 kk_X7_times) rfl rfl rfl (by decide +kernel) ⟨Nat.le_of_ble_eq_true rfl, Nat.le_of_ble_eq_true rfl⟩) (pre7V hP hK hap [.int 57, .int (2 * x5), .int 56]) rfl rfl hl.1 rfl (lv_room (Nat.le_of_ble_eq_true rfl)) dX7_scaled_60 ⟨Nat.zero_le _, Nat.zero_le _⟩) hS (fun _ _ h => h) (fun _ h => h) (fun  u t H locs ht hvm hw hP hz1 hk1 hS => ?_)
    obtain ⟨pi_60, le_60, wo_60⟩ := u
    rw [ht] at hP; clear hz1 hk1 ht hvm
    try dsimp only at hw
    try dsimp only at hP
    refine lv_aload_n hx hb dX7_scaled_63 rfl (lv_at hl 0 rfl) ?_
    refine lv_bipush (v := 57) hx hb dX7_scaled_64 (by decide) ?_
    refine lv_iconst (v := 2) hx hb dX7_scaled_66 (by decide) ?_
    refine lv_iload hx hb dX7_scaled_67 (lv_at hl 2 rfl) ?_
    refine lv_imul hx hb dX7_scaled_69 ?_
    refine lv_iconst (v := 1) hx hb dX7_scaled_70 (by decide) ?_
    refine lv_iadd hx hb dX7_scaled_71 ?_
    refine va_callv (va_runV (As := [.int 57, .int ((2 * x5) + 1)]) (rest := []) ⟨hx, hb, hml, hown, hg⟩ (m_X7_divide l D cI q th sz sd ss pr me ab be pi_60 le_60 sg wo_60 57 ((2 * x5) + 1) _ hw) (cwV 2 hg (x_gV km_X7_93 ki_X7_divide kz_X7_X7_divide kn_X7 kk_X7_divide) rfl rfl rfl (by decide +kernel) ⟨Nat.le_of_ble_eq_true rfl, Nat.le_of_ble_eq_true rfl⟩) (pre7V hP hK hap [.int 57, .int ((2 * x5) + 1)]) rfl rfl hl.1 rfl (lv_room (Nat.le_of_ble_eq_true rfl)) dX7_scaled_72 ⟨Nat.zero_le _, Nat.zero_le _⟩) hS (fun _ _ h => h) (fun _ h => h) (fun  u t H locs ht hvm hw hP hz1 hk1 hS => ?_)
    obtain ⟨pi_72, le_72, wo_72⟩ := u
    rw [ht] at hP; clear hz1 hk1 ht hvm
    try dsimp only at hw
    try dsimp only at hP
    refine lv_aload_n hx hb dX7_scaled_75 rfl (lv_at hl 0 rfl) ?_
    refine va_get (D := D) (ci := 7) (v := .ref (q 5)) (C := RX7) (T := TX7) (N := 12) hx hb hg ku_X7 hown hK hP 0 rfl rfl 10 (by decide) (hg _ kf_X7_43) (fun _ h9 => h9) rfl dX7_scaled_76 ?_
    refine lv_iload hx hb dX7_scaled_79 (lv_at hl 2 rfl) ?_
    obtain ⟨hi81, hw⟩ := hw
    refine va_iald (D := D) hx hb hK hP 5 0 rfl rfl hi81 dX7_scaled_81 ?_
    refine lv_if_ge (tgt := 99) hx hb dX7_scaled_82 (by decide) (fun hc82 => ?_) (fun hc82 => ?_)
    · have hw := hw.1 hc82
      exact mj_X7_scaled_99 C sz sd ss pr me ab be sg post  _ _ _ _ _ _ _ _ hw hP hS (lv_sub hl [0, 2] rfl)
    · have hw := hw.2 hc82
      refine lv_aload_n hx hb dX7_scaled_85 rfl (lv_at hl 0 rfl) ?_
      refine va_get (D := D) (ci := 7) (v := .ref (q 4)) (C := RX7) (T := TX7) (N := 12) hx hb hg ku_X7 hown hK hP 0 rfl rfl 9 (by decide) (hg _ kf_X7_40) (fun _ h9 => h9) rfl dX7_scaled_86 ?_
      refine lv_bipush (v := 61) hx hb dX7_scaled_89 (by decide) ?_
      obtain ⟨hi91, hw⟩ := hw
      refine va_iald (D := D) hx hb hK hP 4 0 rfl rfl hi91 dX7_scaled_91 ?_
      refine lv_if_le (tgt := 99) hx hb dX7_scaled_92 (by decide) (fun hc92 => ?_) (fun hc92 => ?_)
      · have hw := hw.1 hc92
        exact mj_X7_scaled_99 C sz sd ss pr me ab be sg post  _ _ _ _ _ _ _ _ hw hP hS (lv_sub hl [0, 2] rfl)
      · have hw := hw.2 hc92
        refine lv_iconst (v := 1) hx hb dX7_scaled_95 (by decide) ?_
        refine lv_goto (tgt := 100) hx hb dX7_scaled_96 (by decide) ?_
        exact mj_X7_scaled_100 C sz sd ss pr me ab be sg post  _ _ _ _ _ _ _ _ _ hw hP hS (lv_sub hl [0, 2] rfl)
  · have hw := hw.2 hc38
    refine lv_lconst (v := 0) hx hb dX7_scaled_41 (by decide) ?_
    exact W.lret (v := 0) hx hb hr (fun t ht hW => ⟨⟨0, (th, pi, le, wo), rfl, hw, by show va_P D vwCl _ t.heap; rw [ht]; exact hP⟩, hS.F ht⟩) hS.2.2 dX7_scaled_42 hlocks
set_option maxHeartbeats 4000000 in
set_option maxRecDepth 100000 in
theorem mj_X7_scaled_29 (C : C7 p s m args meth c D cI q cX7_scaled 10 (some .long)) (sz : Int32) (sd : Int32) (ss : Int32) (pr : Int32) (me : Int32) (ab : Nat → Int32) (be : Nat → Int32) (sg : Nat → Int32) (post : Int64 → Int32 → (Nat → Int32) → (Nat → Int32) → (Nat → Int32) → Prop) 
    
    (th : Int32) (pi : Nat → Int32) (le : Nat → Int32) (wo : Nat → Int32) (x4 : Int32) (x5 : Int32) (H : Heap) (locs : List Loc) (ls : Array Slot) (hw : wj_X7_scaled_29 sz sd me sg post  th pi le wo x4 x5) (hP : va_P D vwCl (w7 cI q th sz sd ss pr me ab be pi le sg wo) H) (hS : va_S (A7 q) s.heap H locs) (hl : lv_has ls 10 [(0, .ref (q 0)), (4, .int x4), (5, .int x5)]) : W p l e rX7_scaled s m args below meth c H locs 0 0 (MQ below (va_Ql (S := Int32 × (Nat → Int32) × (Nat → Int32) × (Nat → Int32)) (fun r u => post r u.1 u.2.1 u.2.2.1 u.2.2.2) (fun u t => va_P D vwCl (w7 cI q u.1 sz sd ss pr me ab be u.2.1 u.2.2.1 sg u.2.2.2) t.heap) (A7 q)) args s 0 0 (A7 q)) (F0 m 29 ls []) := by
  obtain ⟨hx, hb, hr, hml, hown, hg, hlocks, hK, hap⟩ := id C
  unfold wj_X7_scaled_29 at hw
  refine lv_aload_n hx hb dX7_scaled_29 rfl (lv_at hl 0 rfl) ?_
  refine lv_iconst (v := 2) hx hb dX7_scaled_30 (by decide) ?_
  refine va_put (D := D) (ci := 7) (v := .int 2) (ty := .int) (C := RX7) (T := TX7) (N := 12) hx hb hg ku_X7 tyX7 tyX7_ok nmX7 hown hK hP (D7 hap) hS 0 rfl rfl 0 (by decide) (hg _ kf_X7_7) (fun _ h9 => h9) rfl (by decide +kernel) rfl rfl (Nat.le_of_ble_eq_true rfl) dX7_scaled_31 (fun H locs hP _ hS => ?_)
  have hP : va_P D vwCl (w7 cI q 2 sz sd ss pr me ab be pi le sg wo) H := hP
  exact mj_X7_scaled_34 C sz sd ss pr me ab be sg post  _ _ _ _ _ _ _ _ _ hw hP hS (lv_sub hl [0, 1, 2] rfl)
set_option maxHeartbeats 4000000 in
set_option maxRecDepth 100000 in
theorem m_X7_scaled (l : Launch) (D : va_G) (cI : ClassId) (q : Nat → Nat) (th : Int32) (sz : Int32) (sd : Int32) (ss : Int32) (pr : Int32) (me : Int32) (ab : Nat → Int32) (be : Nat → Int32) (pi : Nat → Int32) (le : Nat → Int32) (sg : Nat → Int32) (wo : Nat → Int32) (x1 : Int32) (x2 : Int32) (x3 : Int32) (x4 : Int32) (post : Int64 → Int32 → (Nat → Int32) → (Nat → Int32) → (Nat → Int32) → Prop) (hw : wp_X7_scaled th sz sd me pi le sg wo x1 x2 x3 x4 post) : Met l yX7_scaled (wu yX7_scaled cX7_scaled 10 (some .long)) rX7_scaled (va_Pc [.ref (q 0), .int x1, .int x2, .int x3, .int x4] (fun U => va_P D vwCl (w7 cI q th sz sd ss pr me ab be pi le sg wo) U.heap ∧ K7 D cI q U)) (va_Ql (S := Int32 × (Nat → Int32) × (Nat → Int32) × (Nat → Int32)) (fun r u => post r u.1 u.2.1 u.2.2.1 u.2.2.2) (fun u t => va_P D vwCl (w7 cI q u.1 sz sd ss pr me ab be u.2.1 u.2.2.1 sg u.2.2.2) t.heap) (A7 q)) 0 0 (A7 q) := by
  refine Met.ofW (cc := cX7_scaled) (maxL := 10) (ret := (some .long)) (by decide) rfl ?_
  intro p e s m args below meth c s₁ B hml hv
  obtain ⟨rfl, hP, hK, hap⟩ := hv
  have C : C7 p s m _ meth c D cI q cX7_scaled 10 (some .long) := ⟨B.exec, B.bytes, B.returns, hml, findClass_of_methodNamed B.named, x_hg (atoms_spec (ws := wu yX7_scaled cX7_scaled 10 (some .long)) B.pre), B.notSynchronized, hK, hap⟩
  obtain ⟨hx, hb, hr, hml, hown, hg, hlocks, hK, hap⟩ := id C
  have hS : va_S (A7 q) s.heap s.heap [] := va_S.rf
  have hl := lv_entry ([.ref (q 0), .int x1, .int x2, .int x3, .int x4]) (n := 10) (Nat.le_of_ble_eq_true rfl)
  rw [lg_entry_eq]
  generalize (lg_sl ([.ref (q 0), .int x1, .int x2, .int x3, .int x4]) ++ List.replicate (10 - (lg_sl ([.ref (q 0), .int x1, .int x2, .int x3, .int x4])).length) Slot.unset).toArray = ls at hl ⊢
  have hl : lv_has ls 10 [(0, .ref (q 0)), (1, .int x1), (2, .int x2), (3, .int x3), (4, .int x4)] := hl
  unfold wp_X7_scaled at hw
  refine lv_aload_n hx hb dX7_scaled_0 rfl (lv_at hl 0 rfl) ?_
  refine lv_iload_n hx hb dX7_scaled_1 rfl (lv_at hl 1 rfl) ?_
  refine lv_iload_n hx hb dX7_scaled_2 rfl (lv_at hl 2 rfl) ?_
  refine lv_iload_n hx hb dX7_scaled_3 rfl (lv_at hl 3 rfl) ?_
  refine va_calli (va_runV (As := [.int x1, .int x2, .int x3]) (rest := []) ⟨hx, hb, hml, hown, hg⟩ (m_X7_asked l D cI q th sz sd ss pr me ab be pi le sg wo x1 x2 x3 _ hw) (cwV 3 hg (x_gV km_X7_158 ki_X7_asked kz_X7_X7_asked kn_X7 kk_X7_asked) rfl rfl rfl (by decide +kernel) ⟨Nat.le_of_ble_eq_true rfl, Nat.le_of_ble_eq_true rfl⟩) (pre7V hP hK hap [.int x1, .int x2, .int x3]) rfl rfl hl.1 rfl (lv_room (Nat.le_of_ble_eq_true rfl)) dX7_scaled_4 ⟨Nat.zero_le _, Nat.zero_le _⟩) hS (fun _ _ h => h) (fun _ h => h) (fun r_4 u t H locs ht hvm hw hP hz1 hk1 hS => ?_)
  obtain ⟨th_4, rfl⟩ : ∃ z, z = u := ⟨_, rfl⟩
  rw [ht] at hP; clear hz1 hk1 ht hvm
  try dsimp only at hw
  try dsimp only at hP
  refine lv_istore (lv' := [(5, .int r_4), (0, .ref (q 0)), (1, .int x1), (2, .int x2), (3, .int x3), (4, .int x4)]) hx hb dX7_scaled_7 hl (by decide) rfl (fun ls hl => ?_)
  refine lv_aload_n hx hb dX7_scaled_9 rfl (lv_at hl 1 rfl) ?_
  refine va_get (D := D) (ci := 7) (v := .int th_4) (C := RX7) (T := TX7) (N := 12) hx hb hg ku_X7 hown hK hP 0 rfl rfl 0 (by decide) (hg _ kf_X7_7) (fun _ h9 => h9) rfl dX7_scaled_10 ?_
  refine lv_if_ne (tgt := 34) hx hb dX7_scaled_13 (by decide) (fun hc13 => ?_) (fun hc13 => ?_)
  · have hw := hw.1 hc13
    exact mj_X7_scaled_34 C sz sd ss pr me ab be sg post  _ _ _ _ _ _ _ _ _ hw hP hS (lv_sub hl [1, 5, 0] rfl)
  · have hw := hw.2 hc13
    refine lv_iload hx hb dX7_scaled_16 (lv_at hl 5 rfl) ?_
    refine lv_iconst (v := 1) hx hb dX7_scaled_18 (by decide) ?_
    refine lv_icmp_lt (tgt := 29) hx hb dX7_scaled_19 (by decide) (fun hc19 => ?_) (fun hc19 => ?_)
    · have hw := hw.1 hc19
      exact mj_X7_scaled_29 C sz sd ss pr me ab be sg post  _ _ _ _ _ _ _ _ _ hw hP hS (lv_sub hl [1, 5, 0] rfl)
    · have hw := hw.2 hc19
      refine lv_iload hx hb dX7_scaled_22 (lv_at hl 5 rfl) ?_
      refine lv_ldc (v := 1000000) hx hb hown (hg _ kc_X7_161) dX7_scaled_24 ?_
      refine lv_icmp_le (tgt := 34) hx hb dX7_scaled_26 (by decide) (fun hc26 => ?_) (fun hc26 => ?_)
      · have hw := hw.1 hc26
        exact mj_X7_scaled_34 C sz sd ss pr me ab be sg post  _ _ _ _ _ _ _ _ _ hw hP hS (lv_sub hl [1, 5, 0] rfl)
      · have hw := hw.2 hc26
        exact mj_X7_scaled_29 C sz sd ss pr me ab be sg post  _ _ _ _ _ _ _ _ _ hw hP hS (lv_sub hl [1, 5, 0] rfl)
-- ===== ExactFilterModel.compare
abbrev rX7_compare : Room := { frames := 6, cells := 0, slots := 0, locals := 150 }
def wj_X7_compare_31 (sz : Int32) (sd : Int32) (me : Int32) (post : Int32 → Int32 → (Nat → Int32) → (Nat → Int32) → (Nat → Int32) → (Nat → Int32) → Prop)  (th : Int32) (pi : Nat → Int32) (le : Nat → Int32) (sg : Nat → Int32) (wo : Nat → Int32) (x4 : Int32) (x5 : Int32) (x6 : Int32) : Prop := (th = 0 → wp_X7_fraction pi le sg wo 20 x4 x5 (fun (pi_47 : Nat → Int32) (le_47 : Nat → Int32) (sg_47 : Nat → Int32) (wo_47 : Nat → Int32) => wp_X7_add pi_47 le_47 sg_47 wo_47 21 x6 20 (-1) (fun (pi_58 : Nat → Int32) (le_58 : Nat → Int32) (sg_58 : Nat → Int32) (wo_58 : Nat → Int32) => vp_in 21 24 ∧ post (sg_58 (21 : Int32).toNatClampNeg) th pi_58 le_58 sg_58 wo_58))) ∧ (¬ th = 0 → post 0 th pi le sg wo)
def wp_X7_compare (th : Int32) (sz : Int32) (sd : Int32) (me : Int32) (pi : Nat → Int32) (le : Nat → Int32) (sg : Nat → Int32) (wo : Nat → Int32) (x1 : Int32) (x2 : Int32) (x3 : Int32) (x4 : Int32) (x5 : Int32) (post : Int32 → Int32 → (Nat → Int32) → (Nat → Int32) → (Nat → Int32) → (Nat → Int32) → Prop) : Prop := wp_X7_asked th sz sd me x1 x2 x3 (fun (r_4 : Int32) (th_4 : Int32) => (¬ th_4 = 0 → wj_X7_compare_31 sz sd me post  th_4 pi le sg wo x4 x5 r_4) ∧ (th_4 = 0 → wp_X7_noFraction  x4 x5 (fun (r_20 : Int32) => (r_20 = 0 → wj_X7_compare_31 sz sd me post  th_4 pi le sg wo x4 x5 r_4) ∧ (¬ r_20 = 0 → wj_X7_compare_31 sz sd me post  2 pi le sg wo x4 x5 r_4))))
set_option maxHeartbeats 4000000 in
set_option maxRecDepth 100000 in
theorem mj_X7_compare_31 (C : C7 p s m args meth c D cI q cX7_compare 7 (some .int)) (sz : Int32) (sd : Int32) (ss : Int32) (pr : Int32) (me : Int32) (ab : Nat → Int32) (be : Nat → Int32) (post : Int32 → Int32 → (Nat → Int32) → (Nat → Int32) → (Nat → Int32) → (Nat → Int32) → Prop) 
    
    (th : Int32) (pi : Nat → Int32) (le : Nat → Int32) (sg : Nat → Int32) (wo : Nat → Int32) (x4 : Int32) (x5 : Int32) (x6 : Int32) (H : Heap) (locs : List Loc) (ls : Array Slot) (hw : wj_X7_compare_31 sz sd me post  th pi le sg wo x4 x5 x6) (hP : va_P D vwCl (w7 cI q th sz sd ss pr me ab be pi le sg wo) H) (hS : va_S (A7 q) s.heap H locs) (hl : lv_has ls 7 [(0, .ref (q 0)), (4, .int x4), (5, .int x5), (6, .int x6)]) : W p l e rX7_compare s m args below meth c H locs 0 0 (MQ below (va_Qi (S := Int32 × (Nat → Int32) × (Nat → Int32) × (Nat → Int32) × (Nat → Int32)) (fun r u => post r u.1 u.2.1 u.2.2.1 u.2.2.2.1 u.2.2.2.2) (fun u t => va_P D vwCl (w7 cI q u.1 sz sd ss pr me ab be u.2.1 u.2.2.1 u.2.2.2.1 u.2.2.2.2) t.heap) (A7 q)) args s 0 0 (A7 q)) (F0 m 31 ls []) := by
  obtain ⟨hx, hb, hr, hml, hown, hg, hlocks, hK, hap⟩ := id C
  unfold wj_X7_compare_31 at hw
  refine lv_aload_n hx hb dX7_compare_31 rfl (lv_at hl 0 rfl) ?_
  refine va_get (D := D) (ci := 7) (v := .int th) (C := RX7) (T := TX7) (N := 12) hx hb hg ku_X7 hown hK hP 0 rfl rfl 0 (by decide) (hg _ kf_X7_7) (fun _ h9 => h9) rfl dX7_compare_32 ?_
  refine lv_if_eq (tgt := 40) hx hb dX7_compare_35 (by decide) (fun hc35 => ?_) (fun hc35 => ?_)
  · have hw := hw.1 hc35
    refine lv_aload_n hx hb dX7_compare_40 rfl (lv_at hl 0 rfl) ?_
    refine lv_bipush (v := 20) hx hb dX7_compare_41 (by decide) ?_
    refine lv_iload hx hb dX7_compare_43 (lv_at hl 1 rfl) ?_
    refine lv_iload hx hb dX7_compare_45 (lv_at hl 2 rfl) ?_
    refine va_callv (va_runV (As := [.int 20, .int x4, .int x5]) (rest := []) ⟨hx, hb, hml, hown, hg⟩ (m_X7_fraction l D cI q th sz sd ss pr me ab be pi le sg wo 20 x4 x5 _ hw) (cwV 3 hg (x_gV km_X7_105 ki_X7_fraction kz_X7_X7_fraction kn_X7 kk_X7_fraction) rfl rfl rfl (by decide +kernel) ⟨Nat.le_of_ble_eq_true rfl, Nat.le_of_ble_eq_true rfl⟩) (pre7V hP hK hap [.int 20, .int x4, .int x5]) rfl rfl hl.1 rfl (lv_room (Nat.le_of_ble_eq_true rfl)) dX7_compare_47 ⟨Nat.zero_le _, Nat.zero_le _⟩) hS (fun _ _ h => h) (fun _ h => h) (fun  u t H locs ht hvm hw hP hz1 hk1 hS => ?_)
    obtain ⟨pi_47, le_47, sg_47, wo_47⟩ := u
    rw [ht] at hP; clear hz1 hk1 ht hvm
    try dsimp only at hw
    try dsimp only at hP
    refine lv_aload_n hx hb dX7_compare_50 rfl (lv_at hl 0 rfl) ?_
    refine lv_bipush (v := 21) hx hb dX7_compare_51 (by decide) ?_
    refine lv_iload hx hb dX7_compare_53 (lv_at hl 3 rfl) ?_
    refine lv_bipush (v := 20) hx hb dX7_compare_55 (by decide) ?_
    refine lv_iconst (v := (-1)) hx hb dX7_compare_57 (by decide) ?_
    refine va_callv (va_runV (As := [.int 21, .int x6, .int 20, .int (-1)]) (rest := []) ⟨hx, hb, hml, hown, hg⟩ (m_X7_add l D cI q th sz sd ss pr me ab be pi_47 le_47 sg_47 wo_47 21 x6 20 (-1) _ hw) (cwV 4 hg (x_gV km_X7_127 ki_X7_add kz_X7_X7_add kn_X7 kk_X7_add) rfl rfl rfl (by decide +kernel) ⟨Nat.le_of_ble_eq_true rfl, Nat.le_of_ble_eq_true rfl⟩) (pre7V hP hK hap [.int 21, .int x6, .int 20, .int (-1)]) rfl rfl hl.1 rfl (lv_room (Nat.le_of_ble_eq_true rfl)) dX7_compare_58 ⟨Nat.zero_le _, Nat.zero_le _⟩) hS (fun _ _ h => h) (fun _ h => h) (fun  u t H locs ht hvm hw hP hz1 hk1 hS => ?_)
    obtain ⟨pi_58, le_58, sg_58, wo_58⟩ := u
    rw [ht] at hP; clear hz1 hk1 ht hvm
    try dsimp only at hw
    try dsimp only at hP
    refine lv_aload_n hx hb dX7_compare_61 rfl (lv_at hl 0 rfl) ?_
    refine va_get (D := D) (ci := 7) (v := .ref (q 5)) (C := RX7) (T := TX7) (N := 12) hx hb hg ku_X7 hown hK hP 0 rfl rfl 10 (by decide) (hg _ kf_X7_43) (fun _ h9 => h9) rfl dX7_compare_62 ?_
    refine lv_bipush (v := 21) hx hb dX7_compare_65 (by decide) ?_
    obtain ⟨hi67, hw⟩ := hw
    refine va_iald (D := D) hx hb hK hP 5 0 rfl rfl hi67 dX7_compare_67 ?_
    exact W.iret (v := (sg_58 (21 : Int32).toNatClampNeg)) hx hb hr (fun t ht hW => ⟨⟨(sg_58 (21 : Int32).toNatClampNeg), (th, pi_58, le_58, sg_58, wo_58), rfl, hw, by show va_P D vwCl _ t.heap; rw [ht]; exact hP⟩, hS.F ht⟩) hS.2.2 dX7_compare_68 hlocks
  · have hw := hw.2 hc35
    refine lv_iconst (v := 0) hx hb dX7_compare_38 (by decide) ?_
    exact W.iret (v := 0) hx hb hr (fun t ht hW => ⟨⟨0, (th, pi, le, sg, wo), rfl, hw, by show va_P D vwCl _ t.heap; rw [ht]; exact hP⟩, hS.F ht⟩) hS.2.2 dX7_compare_39 hlocks
set_option maxHeartbeats 4000000 in
set_option maxRecDepth 100000 in
theorem m_X7_compare (l : Launch) (D : va_G) (cI : ClassId) (q : Nat → Nat) (th : Int32) (sz : Int32) (sd : Int32) (ss : Int32) (pr : Int32) (me : Int32) (ab : Nat → Int32) (be : Nat → Int32) (pi : Nat → Int32) (le : Nat → Int32) (sg : Nat → Int32) (wo : Nat → Int32) (x1 : Int32) (x2 : Int32) (x3 : Int32) (x4 : Int32) (x5 : Int32) (post : Int32 → Int32 → (Nat → Int32) → (Nat → Int32) → (Nat → Int32) → (Nat → Int32) → Prop) (hw : wp_X7_compare th sz sd me pi le sg wo x1 x2 x3 x4 x5 post) : Met l yX7_compare (wu yX7_compare cX7_compare 7 (some .int)) rX7_compare (va_Pc [.ref (q 0), .int x1, .int x2, .int x3, .int x4, .int x5] (fun U => va_P D vwCl (w7 cI q th sz sd ss pr me ab be pi le sg wo) U.heap ∧ K7 D cI q U)) (va_Qi (S := Int32 × (Nat → Int32) × (Nat → Int32) × (Nat → Int32) × (Nat → Int32)) (fun r u => post r u.1 u.2.1 u.2.2.1 u.2.2.2.1 u.2.2.2.2) (fun u t => va_P D vwCl (w7 cI q u.1 sz sd ss pr me ab be u.2.1 u.2.2.1 u.2.2.2.1 u.2.2.2.2) t.heap) (A7 q)) 0 0 (A7 q) := by
  refine Met.ofW (cc := cX7_compare) (maxL := 7) (ret := (some .int)) (by decide) rfl ?_
  intro p e s m args below meth c s₁ B hml hv
  obtain ⟨rfl, hP, hK, hap⟩ := hv
  have C : C7 p s m _ meth c D cI q cX7_compare 7 (some .int) := ⟨B.exec, B.bytes, B.returns, hml, findClass_of_methodNamed B.named, x_hg (atoms_spec (ws := wu yX7_compare cX7_compare 7 (some .int)) B.pre), B.notSynchronized, hK, hap⟩
  obtain ⟨hx, hb, hr, hml, hown, hg, hlocks, hK, hap⟩ := id C
  have hS : va_S (A7 q) s.heap s.heap [] := va_S.rf
  have hl := lv_entry ([.ref (q 0), .int x1, .int x2, .int x3, .int x4, .int x5]) (n := 7) (Nat.le_of_ble_eq_true rfl)
  rw [lg_entry_eq]
  generalize (lg_sl ([.ref (q 0), .int x1, .int x2, .int x3, .int x4, .int x5]) ++ List.replicate (7 - (lg_sl ([.ref (q 0), .int x1, .int x2, .int x3, .int x4, .int x5])).length) Slot.unset).toArray = ls at hl ⊢
  have hl : lv_has ls 7 [(0, .ref (q 0)), (1, .int x1), (2, .int x2), (3, .int x3), (4, .int x4), (5, .int x5)] := hl
  unfold wp_X7_compare at hw
  refine lv_aload_n hx hb dX7_compare_0 rfl (lv_at hl 0 rfl) ?_
  refine lv_iload_n hx hb dX7_compare_1 rfl (lv_at hl 1 rfl) ?_
  refine lv_iload_n hx hb dX7_compare_2 rfl (lv_at hl 2 rfl) ?_
  refine lv_iload_n hx hb dX7_compare_3 rfl (lv_at hl 3 rfl) ?_
  refine va_calli (va_runV (As := [.int x1, .int x2, .int x3]) (rest := []) ⟨hx, hb, hml, hown, hg⟩ (m_X7_asked l D cI q th sz sd ss pr me ab be pi le sg wo x1 x2 x3 _ hw) (cwV 3 hg (x_gV km_X7_158 ki_X7_asked kz_X7_X7_asked kn_X7 kk_X7_asked) rfl rfl rfl (by decide +kernel) ⟨Nat.le_of_ble_eq_true rfl, Nat.le_of_ble_eq_true rfl⟩) (pre7V hP hK hap [.int x1, .int x2, .int x3]) rfl rfl hl.1 rfl (lv_room (Nat.le_of_ble_eq_true rfl)) dX7_compare_4 ⟨Nat.zero_le _, Nat.zero_le _⟩) hS (fun _ _ h => h) (fun _ h => h) (fun r_4 u t H locs ht hvm hw hP hz1 hk1 hS => ?_)
  obtain ⟨th_4, rfl⟩ : ∃ z, z = u := ⟨_, rfl⟩
  rw [ht] at hP; clear hz1 hk1 ht hvm
  try dsimp only at hw
  try dsimp only at hP
  refine lv_istore (lv' := [(6, .int r_4), (0, .ref (q 0)), (1, .int x1), (2, .int x2), (3, .int x3), (4, .int x4), (5, .int x5)]) hx hb dX7_compare_7 hl (by decide) rfl (fun ls hl => ?_)
  refine lv_aload_n hx hb dX7_compare_9 rfl (lv_at hl 1 rfl) ?_
  refine va_get (D := D) (ci := 7) (v := .int th_4) (C := RX7) (T := TX7) (N := 12) hx hb hg ku_X7 hown hK hP 0 rfl rfl 0 (by decide) (hg _ kf_X7_7) (fun _ h9 => h9) rfl dX7_compare_10 ?_
  refine lv_if_ne (tgt := 31) hx hb dX7_compare_13 (by decide) (fun hc13 => ?_) (fun hc13 => ?_)
  · have hw := hw.1 hc13
    exact mj_X7_compare_31 C sz sd ss pr me ab be post  _ _ _ _ _ _ _ _ _ _ _ hw hP hS (lv_sub hl [1, 5, 6, 0] rfl)
  · have hw := hw.2 hc13
    refine lv_iload hx hb dX7_compare_16 (lv_at hl 5 rfl) ?_
    refine lv_iload hx hb dX7_compare_18 (lv_at hl 6 rfl) ?_
    refine va_calli (va_runS (As := [.int x4, .int x5]) (rest := []) ⟨hx, hb, hml, hown, hg⟩ (m_X7_noFraction l x4 x5 _ hw) (va_cwS 2 hg (x_gS km_X7_140 ks_X7_noFraction kn_X7 kk_X7_noFraction) rfl rfl rfl (by decide +kernel) ⟨Nat.le_of_ble_eq_true rfl, Nat.le_of_ble_eq_true rfl⟩) pre7S rfl rfl hl.1 rfl (lv_room (Nat.le_of_ble_eq_true rfl)) dX7_compare_20 ⟨Nat.zero_le _, Nat.zero_le _⟩) hS (fun _ _ h => h.elim) (fun _ h => h.elim) (fun r_20 u t H1 locs1 ht hvm hw hB hz1 hk1 hS => ?_)
    have hP := hP.kept (fun k9 q9 h9 => hk1 q9.1 ((hP k9 q9 h9).lt) (fun z => z.elim))
    clear hB; generalize H1 = H at hP hS ⊢; generalize locs1 = locs at hS ⊢; try dsimp only at hw
    refine lv_if_eq (tgt := 31) hx hb dX7_compare_23 (by decide) (fun hc23 => ?_) (fun hc23 => ?_)
    · have hw := hw.1 hc23
      exact mj_X7_compare_31 C sz sd ss pr me ab be post  _ _ _ _ _ _ _ _ _ _ _ hw hP hS (lv_sub hl [1, 5, 6, 0] rfl)
    · have hw := hw.2 hc23
      refine lv_aload_n hx hb dX7_compare_26 rfl (lv_at hl 1 rfl) ?_
      refine lv_iconst (v := 2) hx hb dX7_compare_27 (by decide) ?_
      refine va_put (D := D) (ci := 7) (v := .int 2) (ty := .int) (C := RX7) (T := TX7) (N := 12) hx hb hg ku_X7 tyX7 tyX7_ok nmX7 hown hK hP (D7 hap) hS 0 rfl rfl 0 (by decide) (hg _ kf_X7_7) (fun _ h9 => h9) rfl (by decide +kernel) rfl rfl (Nat.le_of_ble_eq_true rfl) dX7_compare_28 (fun H locs hP _ hS => ?_)
      have hP : va_P D vwCl (w7 cI q 2 sz sd ss pr me ab be pi le sg wo) H := hP
      exact mj_X7_compare_31 C sz sd ss pr me ab be post  _ _ _ _ _ _ _ _ _ _ _ hw hP hS (lv_sub hl [1, 5, 6, 0] rfl)
-- ===== ExactFilterModel.about
abbrev rX7_about : Room := { frames := 0, cells := 0, slots := 0, locals := 0 }
def wj_X7_about_61 (sz : Int32) (sd : Int32) (pr : Int32) (me : Int32) (post : Int32 → Int32 → Prop)  (th : Int32) (s0 : Int32) : Prop := post s0 th
def wp_X7_about (th : Int32) (sz : Int32) (sd : Int32) (pr : Int32) (me : Int32) (x1 : Int32) (post : Int32 → Int32 → Prop) : Prop := (¬ x1 = 0 → (¬ x1 = 1 → (¬ x1 = 2 → (¬ x1 = 3 → wj_X7_about_61 sz sd pr me post  0 (-1)) ∧ (x1 = 3 → wj_X7_about_61 sz sd pr me post  0 me)) ∧ (x1 = 2 → wj_X7_about_61 sz sd pr me post  0 pr)) ∧ (x1 = 1 → (sd = 0 → wj_X7_about_61 sz sd pr me post  0 0) ∧ (¬ sd = 0 → wj_X7_about_61 sz sd pr me post  0 1))) ∧ (x1 = 0 → wj_X7_about_61 sz sd pr me post  0 sz)
set_option maxHeartbeats 4000000 in
set_option maxRecDepth 100000 in
theorem mj_X7_about_61 (C : C7 p s m args meth c D cI q cX7_about 2 (some .int)) (sz : Int32) (sd : Int32) (ss : Int32) (pr : Int32) (me : Int32) (ab : Nat → Int32) (be : Nat → Int32) (pi : Nat → Int32) (le : Nat → Int32) (sg : Nat → Int32) (wo : Nat → Int32) (post : Int32 → Int32 → Prop) 
    
    (th : Int32) (s0 : Int32) (H : Heap) (locs : List Loc) (ls : Array Slot) (hw : wj_X7_about_61 sz sd pr me post  th s0) (hP : va_P D vwCl (w7 cI q th sz sd ss pr me ab be pi le sg wo) H) (hS : va_S (A7 q) s.heap H locs) (hl : lv_has ls 2 []) : W p l e rX7_about s m args below meth c H locs 0 0 (MQ below (va_Qi (S := Int32) (fun r u => post r u) (fun u t => va_P D vwCl (w7 cI q u sz sd ss pr me ab be pi le sg wo) t.heap) (A7 q)) args s 0 0 (A7 q)) (F0 m 61 ls [.int s0]) := by
  obtain ⟨hx, hb, hr, hml, hown, hg, hlocks, hK, hap⟩ := id C
  unfold wj_X7_about_61 at hw
  exact W.iret (v := s0) hx hb hr (fun t ht hW => ⟨⟨s0, (th), rfl, hw, by show va_P D vwCl _ t.heap; rw [ht]; exact hP⟩, hS.F ht⟩) hS.2.2 dX7_about_61 hlocks
set_option maxHeartbeats 4000000 in
set_option maxRecDepth 100000 in
theorem m_X7_about (l : Launch) (D : va_G) (cI : ClassId) (q : Nat → Nat) (th : Int32) (sz : Int32) (sd : Int32) (ss : Int32) (pr : Int32) (me : Int32) (ab : Nat → Int32) (be : Nat → Int32) (pi : Nat → Int32) (le : Nat → Int32) (sg : Nat → Int32) (wo : Nat → Int32) (x1 : Int32) (post : Int32 → Int32 → Prop) (hw : wp_X7_about th sz sd pr me x1 post) : Met l yX7_about (wu yX7_about cX7_about 2 (some .int)) rX7_about (va_Pc [.ref (q 0), .int x1] (fun U => va_P D vwCl (w7 cI q th sz sd ss pr me ab be pi le sg wo) U.heap ∧ K7 D cI q U)) (va_Qi (S := Int32) (fun r u => post r u) (fun u t => va_P D vwCl (w7 cI q u sz sd ss pr me ab be pi le sg wo) t.heap) (A7 q)) 0 0 (A7 q) := by
  refine Met.ofW (cc := cX7_about) (maxL := 2) (ret := (some .int)) (by decide) rfl ?_
  intro p e s m args below meth c s₁ B hml hv
  obtain ⟨rfl, hP, hK, hap⟩ := hv
  have C : C7 p s m _ meth c D cI q cX7_about 2 (some .int) := ⟨B.exec, B.bytes, B.returns, hml, findClass_of_methodNamed B.named, x_hg (atoms_spec (ws := wu yX7_about cX7_about 2 (some .int)) B.pre), B.notSynchronized, hK, hap⟩
  obtain ⟨hx, hb, hr, hml, hown, hg, hlocks, hK, hap⟩ := id C
  have hS : va_S (A7 q) s.heap s.heap [] := va_S.rf
  have hl := lv_entry ([.ref (q 0), .int x1]) (n := 2) (Nat.le_of_ble_eq_true rfl)
  rw [lg_entry_eq]
  generalize (lg_sl ([.ref (q 0), .int x1]) ++ List.replicate (2 - (lg_sl ([.ref (q 0), .int x1])).length) Slot.unset).toArray = ls at hl ⊢
  have hl : lv_has ls 2 [(0, .ref (q 0)), (1, .int x1)] := hl
  unfold wp_X7_about at hw
  refine lv_aload_n hx hb dX7_about_0 rfl (lv_at hl 0 rfl) ?_
  refine lv_iconst (v := 0) hx hb dX7_about_1 (by decide) ?_
  refine va_put (D := D) (ci := 7) (v := .int 0) (ty := .int) (C := RX7) (T := TX7) (N := 12) hx hb hg ku_X7 tyX7 tyX7_ok nmX7 hown hK hP (D7 hap) hS 0 rfl rfl 0 (by decide) (hg _ kf_X7_7) (fun _ h9 => h9) rfl (by decide +kernel) rfl rfl (Nat.le_of_ble_eq_true rfl) dX7_about_2 (fun H locs hP _ hS => ?_)
  have hP : va_P D vwCl (w7 cI q 0 sz sd ss pr me ab be pi le sg wo) H := hP
  refine lv_iload_n hx hb dX7_about_5 rfl (lv_at hl 1 rfl) ?_
  refine lv_if_ne (tgt := 16) hx hb dX7_about_6 (by decide) (fun hc6 => ?_) (fun hc6 => ?_)
  · have hw := hw.1 hc6
    refine lv_iload_n hx hb dX7_about_16 rfl (lv_at hl 1 rfl) ?_
    refine lv_iconst (v := 1) hx hb dX7_about_17 (by decide) ?_
    refine lv_icmp_ne (tgt := 36) hx hb dX7_about_18 (by decide) (fun hc18 => ?_) (fun hc18 => ?_)
    · have hw := hw.1 hc18
      refine lv_iload_n hx hb dX7_about_36 rfl (lv_at hl 1 rfl) ?_
      refine lv_iconst (v := 2) hx hb dX7_about_37 (by decide) ?_
      refine lv_icmp_ne (tgt := 48) hx hb dX7_about_38 (by decide) (fun hc38 => ?_) (fun hc38 => ?_)
      · have hw := hw.1 hc38
        refine lv_iload_n hx hb dX7_about_48 rfl (lv_at hl 1 rfl) ?_
        refine lv_iconst (v := 3) hx hb dX7_about_49 (by decide) ?_
        refine lv_icmp_ne (tgt := 60) hx hb dX7_about_50 (by decide) (fun hc50 => ?_) (fun hc50 => ?_)
        · have hw := hw.1 hc50
          refine lv_iconst (v := (-1)) hx hb dX7_about_60 (by decide) ?_
          exact mj_X7_about_61 C sz sd ss pr me ab be pi le sg wo post  _ _ _ _ _ hw hP hS (lv_sub hl [] rfl)
        · have hw := hw.2 hc50
          refine lv_aload_n hx hb dX7_about_53 rfl (lv_at hl 0 rfl) ?_
          refine va_get (D := D) (ci := 7) (v := .int me) (C := RX7) (T := TX7) (N := 12) hx hb hg ku_X7 hown hK hP 0 rfl rfl 7 (by decide) (hg _ kf_X7_33) (fun _ h9 => h9) rfl dX7_about_54 ?_
          refine lv_goto (tgt := 61) hx hb dX7_about_57 (by decide) ?_
          exact mj_X7_about_61 C sz sd ss pr me ab be pi le sg wo post  _ _ _ _ _ hw hP hS (lv_sub hl [] rfl)
      · have hw := hw.2 hc38
        refine lv_aload_n hx hb dX7_about_41 rfl (lv_at hl 0 rfl) ?_
        refine va_get (D := D) (ci := 7) (v := .int pr) (C := RX7) (T := TX7) (N := 12) hx hb hg ku_X7 hown hK hP 0 rfl rfl 6 (by decide) (hg _ kf_X7_30) (fun _ h9 => h9) rfl dX7_about_42 ?_
        refine lv_goto (tgt := 61) hx hb dX7_about_45 (by decide) ?_
        exact mj_X7_about_61 C sz sd ss pr me ab be pi le sg wo post  _ _ _ _ _ hw hP hS (lv_sub hl [] rfl)
    · have hw := hw.2 hc18
      refine lv_aload_n hx hb dX7_about_21 rfl (lv_at hl 0 rfl) ?_
      refine va_get (D := D) (ci := 7) (v := .int sd) (C := RX7) (T := TX7) (N := 12) hx hb hg ku_X7 hown hK hP 0 rfl rfl 4 (by decide) (hg _ kf_X7_23) (fun _ h9 => h9) rfl dX7_about_22 ?_
      refine lv_if_eq (tgt := 32) hx hb dX7_about_25 (by decide) (fun hc25 => ?_) (fun hc25 => ?_)
      · have hw := hw.1 hc25
        refine lv_iconst (v := 0) hx hb dX7_about_32 (by decide) ?_
        refine lv_goto (tgt := 61) hx hb dX7_about_33 (by decide) ?_
        exact mj_X7_about_61 C sz sd ss pr me ab be pi le sg wo post  _ _ _ _ _ hw hP hS (lv_sub hl [] rfl)
      · have hw := hw.2 hc25
        refine lv_iconst (v := 1) hx hb dX7_about_28 (by decide) ?_
        refine lv_goto (tgt := 61) hx hb dX7_about_29 (by decide) ?_
        exact mj_X7_about_61 C sz sd ss pr me ab be pi le sg wo post  _ _ _ _ _ hw hP hS (lv_sub hl [] rfl)
  · have hw := hw.2 hc6
    refine lv_aload_n hx hb dX7_about_9 rfl (lv_at hl 0 rfl) ?_
    refine va_get (D := D) (ci := 7) (v := .int sz) (C := RX7) (T := TX7) (N := 12) hx hb hg ku_X7 hown hK hP 0 rfl rfl 1 (by decide) (hg _ kf_X7_13) (fun _ h9 => h9) rfl dX7_about_10 ?_
    refine lv_goto (tgt := 61) hx hb dX7_about_13 (by decide) ?_
    exact mj_X7_about_61 C sz sd ss pr me ab be pi le sg wo post  _ _ _ _ _ hw hP hS (lv_sub hl [] rfl)
end X7RUN_x7b
