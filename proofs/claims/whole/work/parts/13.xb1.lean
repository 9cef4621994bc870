section XB_xb1
variable {p : Program} {l : Launch} {e : Env} {s : State} {m : MethodId} {args : Array Value} {below : List Frame} {meth : Method} {c : Code} {G : xG}
-- ===== ExactFilter$Whole.init
abbrev rX5_init  : Room := { frames := 1, cells := 0, slots := 0, locals := 20 }
def wl_X5_init_7  (post : xH → Prop) (K25 : xH → Nat → Int32 → Nat → Int32 → Prop) : Nat → xH → Nat → Int32 → Nat → Int32 → Prop
  | 0, _, _, _, _, _ => False
  | n + 1, h, x0, x1, x2, x3 => (x3 ≤ 0 → K25 h x0 x1 x2 x3) ∧ (¬ x3 ≤ 0 → ∃ (n_15 : Nat) (f_15 : Nat → Int32), h x2 = some (.inl (0, n_15, .inl f_15)) ∧ vp_in (x3 - 1) n_15 ∧ (¬ (f_15 ((x3 - 1) : Int32).toNatClampNeg) = 0 → K25 h x0 x1 x2 x3) ∧ ((f_15 ((x3 - 1) : Int32).toNatClampNeg) = 0 → ∀ (x3_19 : Int32), x3_19 = x3 + (-1) → wl_X5_init_7  post K25 n h x0 x1 x2 x3_19))
def wj_X5_init_35  (post : xH → Prop)  (h : xH) (x0 : Nat) (x2 : Nat) (x3 : Int32) (s0 : Nat) (s1 : Int32) : Prop := ∃ fs_35 : List Value, h s0 = some (.inr (5, fs_35)) ∧ 0 < (fs_35 : List Value).length ∧ ∀ h_35 : xH, h_35 = x_up h s0 (.inr (5, (fs_35 : List Value).set 0 (.int s1))) → ∃ fs_40 : List Value, h_35 x0 = some (.inr (5, fs_40)) ∧ 1 < (fs_40 : List Value).length ∧ ∀ h_40 : xH, h_40 = x_up h_35 x0 (.inr (5, (fs_40 : List Value).set 1 (.ref x2))) → 2 < ((fs_40 : List Value).set 1 (.ref x2) : List Value).length ∧ ∀ h_45 : xH, h_45 = x_up h_40 x0 (.inr (5, ((fs_40 : List Value).set 1 (.ref x2) : List Value).set 2 (.int x3))) → post h_45
def wj_X5_init_25  (post : xH → Prop)  (h : xH) (x0 : Nat) (x1 : Int32) (x2 : Nat) (x3 : Int32) : Prop := (¬ x3 = 0 → wj_X5_init_35  post  h x0 x2 x3 x0 x1) ∧ (x3 = 0 → wj_X5_init_35  post  h x0 x2 x3 x0 0)
def wp_X5_init (h0 : xH)  (x0 : Nat) (x1 : Int32) (x2 : Nat) (post : xH → Prop) : Prop := ∃ (n_5 : Nat) (f_5 : Nat → Int32), h0 x2 = some (.inl (0, n_5, .inl f_5)) ∧ ∀ (x3_6 : Int32), x3_6 = (nI n_5) → ∃ n7 : Nat, wl_X5_init_7  post (fun (h : xH) (x0 : Nat) (x1 : Int32) (x2 : Nat) (x3 : Int32) => wj_X5_init_25  post  h x0 x1 x2 x3) n7 h0 x0 x1 x2 x3_6
set_option maxHeartbeats 4000000 in
set_option maxRecDepth 100000 in
theorem ml_X5_init_7 (C : CX p s m args meth c G RX5 cX5_init 4 none) (hin : meth.name = "<init>") (h0 : xH) (post : xH → Prop) (K25 : xH → Nat → Int32 → Nat → Int32 → Prop)
    (hK25 : (∀ (h : xH) (x0 : Nat) (x1 : Int32) (x2 : Nat) (x3 : Int32) (H : Heap) (locs : List Loc) (ls : Array Slot) (nc ns : Nat), K25 h x0 x1 x2 x3 → x_I G (x_A h0 s.heap.size) s.heap h H locs → nc + 0 ≤ 0 → ns + 0 ≤ 0 → lv_has ls 4 [(0, .ref x0), (1, .int x1), (2, .ref x2), (3, .int x3)] → W p l e (rX5_init) s m args below meth c H locs nc ns (MQ below (x_Qv G h0 s.heap.size post) args s 0 0 (x_A h0 s.heap.size)) (F0 m 25 ls []))) :
    ∀ (n : Nat) (h : xH) (x0 : Nat) (x1 : Int32) (x2 : Nat) (x3 : Int32) (H : Heap) (locs : List Loc) (ls : Array Slot) (nc ns : Nat), wl_X5_init_7  post K25 n h x0 x1 x2 x3 → x_I G (x_A h0 s.heap.size) s.heap h H locs → nc + 0 ≤ 0 → ns + 0 ≤ 0 → lv_has ls 4 [(0, .ref x0), (1, .int x1), (2, .ref x2), (3, .int x3)] → W p l e (rX5_init) s m args below meth c H locs nc ns (MQ below (x_Qv G h0 s.heap.size post) args s 0 0 (x_A h0 s.heap.size)) (F0 m 7 ls []) := by
  obtain ⟨hx, hb, hr, hml, hown, hg, hlocks, hK⟩ := id C
  intro n
  induction n with
  | zero => intro h x0 x1 x2 x3 H locs ls nc ns hw; exact absurd hw id
  | succ n ih =>
    intro h x0 x1 x2 x3 H locs ls nc ns hw hI hkc hks hl
    refine lv_iload_n hx hb dX5_init_7 rfl (lv_at hl 3 rfl) ?_
    refine lv_if_le (tgt := 25) hx hb dX5_init_8 (by decide) (fun hc8 => ?_) (fun hc8 => ?_)
    · have hw := hw.1 hc8
      exact hK25 _ _ _ _ _ _ _ _ _ _ hw hI (by omega) (by omega) (lv_sub hl [0, 1, 2, 3] rfl)
    · have hw := hw.2 hc8
      refine lv_aload_n hx hb dX5_init_11 rfl (lv_at hl 2 rfl) ?_
      refine lv_iload_n hx hb dX5_init_12 rfl (lv_at hl 3 rfl) ?_
      refine lv_iconst (v := 1) hx hb dX5_init_13 (by decide) ?_
      refine lv_isub hx hb dX5_init_14 ?_
      obtain ⟨n_15, f_15, he_15, hw⟩ := hw
      obtain ⟨hi15, hw⟩ := hw
      refine x_iald hx hb hK hI he_15 hi15 dX5_init_15 ?_
      refine lv_if_ne (tgt := 25) hx hb dX5_init_16 (by decide) (fun hc16 => ?_) (fun hc16 => ?_)
      · have hw := hw.1 hc16
        exact hK25 _ _ _ _ _ _ _ _ _ _ hw hI (by omega) (by omega) (lv_sub hl [0, 1, 2, 3] rfl)
      · have hw := hw.2 hc16
        obtain ⟨x3_19, ex3_19⟩ : ∃ y : Int32, y = x3 + (-1) := ⟨_, rfl⟩
        have hw := hw x3_19 ex3_19
        refine lv_iinc (v := x3_19) (lv' := [(3, .int x3_19), (0, .ref x0), (1, .int x1), (2, .ref x2)]) hx hb dX5_init_19 hl (k := 3) rfl (by rw [ex3_19]; rfl) (by decide) rfl (fun ls hl => ?_)
        refine lv_goto (tgt := 7) hx hb dX5_init_22 (by decide) ?_
        exact ih _ _ _ _ _ _ _ _ _ _ hw hI (by omega) (by omega) (lv_sub hl [1, 2, 3, 0] rfl)
set_option maxHeartbeats 4000000 in
set_option maxRecDepth 100000 in
theorem mj_X5_init_35 (C : CX p s m args meth c G RX5 cX5_init 4 none) (hin : meth.name = "<init>") (h0 : xH) (post : xH → Prop) 
    
    (h : xH) (x0 : Nat) (x2 : Nat) (x3 : Int32) (s0 : Nat) (s1 : Int32) (H : Heap) (locs : List Loc) (ls : Array Slot) (nc ns : Nat) (hw : wj_X5_init_35  post  h x0 x2 x3 s0 s1) (hI : x_I G (x_A h0 s.heap.size) s.heap h H locs) (hkc : nc + 0 ≤ 0) (hks : ns + 0 ≤ 0) (hl : lv_has ls 4 [(0, .ref x0), (2, .ref x2), (3, .int x3)]) : W p l e (rX5_init) s m args below meth c H locs nc ns (MQ below (x_Qv G h0 s.heap.size post) args s 0 0 (x_A h0 s.heap.size)) (F0 m 35 ls [.int s1, .ref s0]) := by
  obtain ⟨hx, hb, hr, hml, hown, hg, hlocks, hK⟩ := id C
  unfold wj_X5_init_35 at hw
  obtain ⟨fs_35, he_35, hw⟩ := hw
  obtain ⟨hlen35, hw⟩ := hw
  refine x_putF (ci := 5) (v := .int s1) (ty := .int) (C := RX5) (T := TX5) (N := 3) hx hb hg ku_X5 tyX5 tyX5_ok nmX5 hown hK hI he_35 rfl 0 (by decide) (hg _ kf_X5_7) (fun _ h9 => h9) rfl hin rfl (by decide +kernel) rfl rfl hlen35 dX5_init_35 (fun H locs hI => ?_)
  have hI : x_I G (x_A h0 s.heap.size) s.heap (x_up h s0 (.inr (5, (fs_35 : List Value).set 0 (.int s1)))) H locs := hI
  obtain ⟨h_35, eh_35⟩ : ∃ z : xH, z = x_up h s0 (.inr (5, (fs_35 : List Value).set 0 (.int s1))) := ⟨_, rfl⟩
  rw [← eh_35] at hI
  have hw := hw h_35 eh_35
  have heh_35 : h_35 s0 = some (.inr (5, (fs_35 : List Value).set 0 (.int s1))) := by rw [eh_35]; exact x_up_s
  refine lv_aload_n hx hb dX5_init_38 rfl (lv_at hl 0 rfl) ?_
  refine lv_aload_n hx hb dX5_init_39 rfl (lv_at hl 1 rfl) ?_
  obtain ⟨fs_40, he_40, hw⟩ := hw
  obtain ⟨hlen40, hw⟩ := hw
  refine x_putF (ci := 5) (v := .ref x2) (ty := .array .int) (C := RX5) (T := TX5) (N := 3) hx hb hg ku_X5 tyX5 tyX5_ok nmX5 hown hK hI he_40 rfl 1 (by decide) (hg _ kf_X5_13) (fun _ h9 => h9) rfl hin rfl (by decide +kernel) rfl rfl hlen40 dX5_init_40 (fun H locs hI => ?_)
  have hI : x_I G (x_A h0 s.heap.size) s.heap (x_up h_35 x0 (.inr (5, (fs_40 : List Value).set 1 (.ref x2)))) H locs := hI
  obtain ⟨h_40, eh_40⟩ : ∃ z : xH, z = x_up h_35 x0 (.inr (5, (fs_40 : List Value).set 1 (.ref x2))) := ⟨_, rfl⟩
  rw [← eh_40] at hI
  have hw := hw h_40 eh_40
  have heh_40 : h_40 x0 = some (.inr (5, (fs_40 : List Value).set 1 (.ref x2))) := by rw [eh_40]; exact x_up_s
  refine lv_aload_n hx hb dX5_init_43 rfl (lv_at hl 0 rfl) ?_
  refine lv_iload_n hx hb dX5_init_44 rfl (lv_at hl 2 rfl) ?_
  obtain ⟨hlen45, hw⟩ := hw
  refine x_putF (ci := 5) (v := .int x3) (ty := .int) (C := RX5) (T := TX5) (N := 3) hx hb hg ku_X5 tyX5 tyX5_ok nmX5 hown hK hI heh_40 rfl 2 (by decide) (hg _ kf_X5_17) (fun _ h9 => h9) rfl hin rfl (by decide +kernel) rfl rfl hlen45 dX5_init_45 (fun H locs hI => ?_)
  have hI : x_I G (x_A h0 s.heap.size) s.heap (x_up h_40 x0 (.inr (5, ((fs_40 : List Value).set 1 (.ref x2) : List Value).set 2 (.int x3)))) H locs := hI
  obtain ⟨h_45, eh_45⟩ : ∃ z : xH, z = x_up h_40 x0 (.inr (5, ((fs_40 : List Value).set 1 (.ref x2) : List Value).set 2 (.int x3))) := ⟨_, rfl⟩
  rw [← eh_45] at hI
  have hw := hw h_45 eh_45
  have heh_45 : h_45 x0 = some (.inr (5, ((fs_40 : List Value).set 1 (.ref x2) : List Value).set 2 (.int x3))) := by rw [eh_45]; exact x_up_s
  exact x_vret hx hb hr hlocks hI hw (by omega) (by omega) dX5_init_48
set_option maxHeartbeats 4000000 in
set_option maxRecDepth 100000 in
theorem mj_X5_init_25 (C : CX p s m args meth c G RX5 cX5_init 4 none) (hin : meth.name = "<init>") (h0 : xH) (post : xH → Prop) 
    
    (h : xH) (x0 : Nat) (x1 : Int32) (x2 : Nat) (x3 : Int32) (H : Heap) (locs : List Loc) (ls : Array Slot) (nc ns : Nat) (hw : wj_X5_init_25  post  h x0 x1 x2 x3) (hI : x_I G (x_A h0 s.heap.size) s.heap h H locs) (hkc : nc + 0 ≤ 0) (hks : ns + 0 ≤ 0) (hl : lv_has ls 4 [(0, .ref x0), (1, .int x1), (2, .ref x2), (3, .int x3)]) : W p l e (rX5_init) s m args below meth c H locs nc ns (MQ below (x_Qv G h0 s.heap.size post) args s 0 0 (x_A h0 s.heap.size)) (F0 m 25 ls []) := by
  obtain ⟨hx, hb, hr, hml, hown, hg, hlocks, hK⟩ := id C
  unfold wj_X5_init_25 at hw
  refine lv_aload_n hx hb dX5_init_25 rfl (lv_at hl 0 rfl) ?_
  refine lv_iload_n hx hb dX5_init_26 rfl (lv_at hl 3 rfl) ?_
  refine lv_if_ne (tgt := 34) hx hb dX5_init_27 (by decide) (fun hc27 => ?_) (fun hc27 => ?_)
  · have hw := hw.1 hc27
    refine lv_iload_n hx hb dX5_init_34 rfl (lv_at hl 1 rfl) ?_
    exact mj_X5_init_35 C hin h0 post  _ _ _ _ _ _ _ _ _ _ _ hw hI (by omega) (by omega) (lv_sub hl [0, 2, 3] rfl)
  · have hw := hw.2 hc27
    refine lv_iconst (v := 0) hx hb dX5_init_30 (by decide) ?_
    refine lv_goto (tgt := 35) hx hb dX5_init_31 (by decide) ?_
    exact mj_X5_init_35 C hin h0 post  _ _ _ _ _ _ _ _ _ _ _ hw hI (by omega) (by omega) (lv_sub hl [0, 2, 3] rfl)
set_option maxHeartbeats 4000000 in
set_option maxRecDepth 100000 in
theorem m_X5_init (l : Launch) (G : xG) (h0 : xH)  (x0 : Nat) (x1 : Int32) (x2 : Nat) (post : xH → Prop) (hw : wp_X5_init h0  x0 x1 x2 post) (sz : Nat) : Met l yX5_init (wu yX5_init cX5_init 4 none) (rX5_init) (x_Pc G [.ref x0, .int x1, .ref x2] h0 sz) (x_Qv G h0 sz post) 0 0 (x_A h0 sz) := by
  refine Met.ofW (cc := cX5_init) (maxL := 4) (ret := none) (by decide) rfl ?_
  intro p e s m args below meth c s₁ B hml hv
  obtain ⟨rfl, hsz, hR, hK⟩ := hv
  subst hsz
  have C : CX p s m _ meth c G RX5 cX5_init 4 none := ⟨B.exec, B.bytes, B.returns, hml, findClass_of_methodNamed B.named, x_hg (atoms_spec (ws := wu yX5_init cX5_init 4 none) B.pre), B.notSynchronized, hK⟩
  obtain ⟨hx, hb, hr, hml, hown, hg, hlocks, hK⟩ := id C
  have hin : meth.name = "<init>" := (name_of_methodNamed B.named B.method).1
  have hI : x_I G (x_A h0 s.heap.size) s.heap h0 s.heap [] := x_I.start hR
  have hkc : 0 + 0 ≤ 0 := by omega
  have hks : 0 + 0 ≤ 0 := by omega
  have hl := lv_entry ([.ref x0, .int x1, .ref x2]) (n := 4) (Nat.le_of_ble_eq_true rfl)
  rw [lg_entry_eq]
  generalize (lg_sl ([.ref x0, .int x1, .ref x2]) ++ List.replicate (4 - (lg_sl ([.ref x0, .int x1, .ref x2])).length) Slot.unset).toArray = ls at hl ⊢
  have hl : lv_has ls 4 [(0, .ref x0), (1, .int x1), (2, .ref x2)] := hl
  unfold wp_X5_init at hw
  refine lv_aload_n hx hb dX5_init_0 rfl (lv_at hl 0 rfl) ?_
  refine W.objInit hx hb hown (hg _ km_X5_1) (hg _ ki_java_lang_Object__init____V) (hg _ kk_java_lang_Object__init____V) rfl (by rw [hml]; exact hl.1) rfl dX5_init_1 (Nat.le_of_ble_eq_true rfl) (Nat.le_of_ble_eq_true rfl) ?_
  refine W.eq (g2 := F0 m 4 ls []) rfl ?_
  refine lv_aload_n hx hb dX5_init_4 rfl (lv_at hl 2 rfl) ?_
  obtain ⟨n_5, f_5, he_5, hw⟩ := hw
  refine x_alen hx hb hK hI he_5 rfl dX5_init_5 ?_
  refine W.eq (g2 := F0 m 6 ls (.int (nI n_5) :: [])) rfl ?_
  refine lv_topi (fun x3_6 ex3_6 => ?_)
  have hw := hw x3_6 ex3_6
  refine lv_istore_n (lv' := [(3, .int x3_6), (0, .ref x0), (1, .int x1), (2, .ref x2)]) hx hb dX5_init_6 rfl hl (by decide) rfl (fun ls hl => ?_)
  obtain ⟨n7, hw⟩ := hw
  refine ml_X5_init_7 C hin h0 post _ ?_ n7 _ _ _ _ _ _ _ _ _ _ hw hI (by omega) (by omega) (lv_sub hl [1, 2, 3, 0] rfl)
  · intro h x0 x1 x2 x3 H locs ls nc ns hw hI hkc hks hl
    exact mj_X5_init_25 C hin h0 post  _ _ _ _ _ _ _ _ _ _ hw hI (by omega) (by omega) (lv_sub hl [0, 1, 2, 3] rfl)
-- ===== ExactFilter$Whole.of
abbrev rX5_of (mc ms : Nat) : Room := { frames := 2, cells := mc, slots := ms, locals := 43 }
def wj_X5_of_46  (post : Nat → xH → Prop) (Rc : xH → Nat → Nat → Int64 → Int64 → Int32 → Int32 → Prop) (K54 : xH → Nat → Nat → Int64 → Int64 → Int32 → Prop) (h : xH) (kc : Nat) (ks : Nat) (x0 : Int64) (x2 : Int64) (x5 : Int32) (s0 : Int32) : Prop := ∀ (x5_48 : Int32), x5_48 = x5 + 1 → Rc h kc ks x0 x2 s0 x5_48
def wl_X5_of_19  (post : Nat → xH → Prop) (K54 : xH → Nat → Nat → Int64 → Int64 → Int32 → Prop) : Nat → xH → Nat → Nat → Int64 → Int64 → Int32 → Int32 → Prop
  | 0, _, _, _, _, _, _, _ => False
  | n + 1, h, kc, ks, x0, x2, x4, x5 => (4 ≤ x5 → K54 h kc ks x0 x2 x4) ∧ (¬ 4 ≤ x5 → ((((x2 : Int64).toUInt64 >>> (((16 * x5) : Int32).toInt64.toUInt64 &&& Int64.toUInt64 63)).toInt64) = 0 → wj_X5_of_46  post (wl_X5_of_19  post K54 n) K54 h kc ks x0 x2 x5 x4) ∧ (¬ (((x2 : Int64).toUInt64 >>> (((16 * x5) : Int32).toInt64.toUInt64 &&& Int64.toUInt64 63)).toInt64) = 0 → wj_X5_of_46  post (wl_X5_of_19  post K54 n) K54 h kc ks x0 x2 x5 (x5 + 1)))
def wl_X5_of_63  (post : Nat → xH → Prop) (K92 : xH → Nat → Nat → Int64 → Nat → Prop) : Nat → xH → Nat → Nat → Int64 → Int64 → Int32 → Nat → Int32 → Prop
  | 0, _, _, _, _, _, _, _, _ => False
  | n + 1, h, kc, ks, x0, x2, x4, x5, x6 => (x4 ≤ x6 → K92 h kc ks x0 x5) ∧ (¬ x4 ≤ x6 → ∃ (n_85 : Nat) (f_85 : Nat → Int32), h x5 = some (.inl (0, n_85, .inl f_85)) ∧ vp_in x6 n_85 ∧ ∀ h_85 : xH, h_85 = x_up h x5 (.inl (0, n_85, .inl (upd f_85 (x6 : Int32).toNatClampNeg ((((((x2 : Int64).toUInt64 >>> (((16 * x6) : Int32).toInt64.toUInt64 &&& Int64.toUInt64 63)).toInt64) : Int64).toInt32) &&& 65535)))) → ∀ (x6_86 : Int32), x6_86 = x6 + 1 → wl_X5_of_63  post K92 n h_85 kc ks x0 x2 x4 x5 x6_86)
def wj_X5_of_107  (post : Nat → xH → Prop)  (h : xH) (kc : Nat) (ks : Nat) (x5 : Nat) (s0 : Nat) (s1 : Nat) (s2 : Int32) : Prop := wp_X5_init h  s1 s2 x5 (fun (h_109 : xH) => post s0 h_109)
def wj_X5_of_12  (post : Nat → xH → Prop)  (h : xH) (kc : Nat) (ks : Nat) (x0 : Int64) (s0 : Int64) : Prop := ∃ n19 : Nat, wl_X5_of_19  post (fun (h : xH) (kc : Nat) (ks : Nat) (x0 : Int64) (x2 : Int64) (x4 : Int32) => ¬ (x4 : Int32) < 0 ∧ ∀ z_56 : Nat, (x4 : Int32).toNatClampNeg = z_56 → z_56 ≤ 60000000 ∧ 1 ≤ kc ∧ z_56 ≤ ks ∧ ∀ q_56 : Nat, x_fresh h q_56 → ∀ h_56 : xH, h_56 = x_up h q_56 (.inl (0, z_56, .inl (fun _ => 0))) → ∃ n63 : Nat, wl_X5_of_63  post (fun (h : xH) (kc : Nat) (ks : Nat) (x0 : Int64) (x5 : Nat) => 1 ≤ kc ∧ 3 ≤ ks ∧ ∀ q_92 : Nat, x_fresh h q_92 → ∀ h_92 : xH, h_92 = x_up h q_92 (.inr (5, [.int 0, .null, .int 0])) → (0 ≤ x0 → wj_X5_of_107  post  h_92 (kc - 1) (ks - 3) x5 q_92 q_92 1) ∧ (¬ 0 ≤ x0 → wj_X5_of_107  post  h_92 (kc - 1) (ks - 3) x5 q_92 q_92 (-1))) n63 h_56 (kc - 1) (ks - z_56) x0 x2 x4 q_56 0) n19 h kc ks x0 s0 0 0
def wp_X5_of (h0 : xH) (mc ms : Nat) (x0 : Int64) (post : Nat → xH → Prop) : Prop := (0 ≤ x0 → wj_X5_of_12  post  h0 mc ms x0 x0) ∧ (¬ 0 ≤ x0 → wj_X5_of_12  post  h0 mc ms x0 (-x0))
set_option maxHeartbeats 4000000 in
set_option maxRecDepth 100000 in
theorem mj_X5_of_46 (C : CX p s m args meth c G RX5 cX5_of 7 (some (.object "ExactFilter$Whole"))) (h0 : xH) (mc ms : Nat) (post : Nat → xH → Prop) (Rc : xH → Nat → Nat → Int64 → Int64 → Int32 → Int32 → Prop) (K54 : xH → Nat → Nat → Int64 → Int64 → Int32 → Prop)
    (hRc : (∀ (h : xH) (kc : Nat) (ks : Nat) (x0 : Int64) (x2 : Int64) (x4 : Int32) (x5 : Int32) (H : Heap) (locs : List Loc) (ls : Array Slot) (nc ns : Nat), Rc h kc ks x0 x2 x4 x5 → x_I G (x_A h0 s.heap.size) s.heap h H locs → nc + kc ≤ mc → ns + ks ≤ ms → lv_has ls 7 [(0, .long x0), (2, .long x2), (4, .int x4), (5, .int x5)] → W p l e (rX5_of mc ms) s m args below meth c H locs nc ns (MQ below (x_Qr G h0 s.heap.size post) args s mc ms (x_A h0 s.heap.size)) (F0 m 19 ls [])))
    (hK54 : (∀ (h : xH) (kc : Nat) (ks : Nat) (x0 : Int64) (x2 : Int64) (x4 : Int32) (H : Heap) (locs : List Loc) (ls : Array Slot) (nc ns : Nat), K54 h kc ks x0 x2 x4 → x_I G (x_A h0 s.heap.size) s.heap h H locs → nc + kc ≤ mc → ns + ks ≤ ms → lv_has ls 7 [(0, .long x0), (2, .long x2), (4, .int x4)] → W p l e (rX5_of mc ms) s m args below meth c H locs nc ns (MQ below (x_Qr G h0 s.heap.size post) args s mc ms (x_A h0 s.heap.size)) (F0 m 54 ls [])))
    (h : xH) (kc : Nat) (ks : Nat) (x0 : Int64) (x2 : Int64) (x5 : Int32) (s0 : Int32) (H : Heap) (locs : List Loc) (ls : Array Slot) (nc ns : Nat) (hw : wj_X5_of_46  post Rc K54 h kc ks x0 x2 x5 s0) (hI : x_I G (x_A h0 s.heap.size) s.heap h H locs) (hkc : nc + kc ≤ mc) (hks : ns + ks ≤ ms) (hl : lv_has ls 7 [(0, .long x0), (2, .long x2), (5, .int x5)]) : W p l e (rX5_of mc ms) s m args below meth c H locs nc ns (MQ below (x_Qr G h0 s.heap.size post) args s mc ms (x_A h0 s.heap.size)) (F0 m 46 ls [.int s0]) := by
  obtain ⟨hx, hb, hr, hml, hown, hg, hlocks, hK⟩ := id C
  unfold wj_X5_of_46 at hw
  refine lv_istore (lv' := [(4, .int s0), (0, .long x0), (2, .long x2), (5, .int x5)]) hx hb dX5_of_46 hl (by decide) rfl (fun ls hl => ?_)
  obtain ⟨x5_48, ex5_48⟩ : ∃ y : Int32, y = x5 + 1 := ⟨_, rfl⟩
  have hw := hw x5_48 ex5_48
  refine lv_iinc (v := x5_48) (lv' := [(5, .int x5_48), (4, .int s0), (0, .long x0), (2, .long x2)]) hx hb dX5_of_48 hl (k := 3) rfl (by rw [ex5_48]; rfl) (by decide) rfl (fun ls hl => ?_)
  refine lv_goto (tgt := 19) hx hb dX5_of_51 (by decide) ?_
  exact hRc _ _ _ _ _ _ _ _ _ _ _ _ hw hI (by omega) (by omega) (lv_sub hl [2, 3, 1, 0] rfl)
set_option maxHeartbeats 4000000 in
set_option maxRecDepth 100000 in
theorem ml_X5_of_19 (C : CX p s m args meth c G RX5 cX5_of 7 (some (.object "ExactFilter$Whole"))) (h0 : xH) (mc ms : Nat) (post : Nat → xH → Prop) (K54 : xH → Nat → Nat → Int64 → Int64 → Int32 → Prop)
    (hK54 : (∀ (h : xH) (kc : Nat) (ks : Nat) (x0 : Int64) (x2 : Int64) (x4 : Int32) (H : Heap) (locs : List Loc) (ls : Array Slot) (nc ns : Nat), K54 h kc ks x0 x2 x4 → x_I G (x_A h0 s.heap.size) s.heap h H locs → nc + kc ≤ mc → ns + ks ≤ ms → lv_has ls 7 [(0, .long x0), (2, .long x2), (4, .int x4)] → W p l e (rX5_of mc ms) s m args below meth c H locs nc ns (MQ below (x_Qr G h0 s.heap.size post) args s mc ms (x_A h0 s.heap.size)) (F0 m 54 ls []))) :
    ∀ (n : Nat) (h : xH) (kc : Nat) (ks : Nat) (x0 : Int64) (x2 : Int64) (x4 : Int32) (x5 : Int32) (H : Heap) (locs : List Loc) (ls : Array Slot) (nc ns : Nat), wl_X5_of_19  post K54 n h kc ks x0 x2 x4 x5 → x_I G (x_A h0 s.heap.size) s.heap h H locs → nc + kc ≤ mc → ns + ks ≤ ms → lv_has ls 7 [(0, .long x0), (2, .long x2), (4, .int x4), (5, .int x5)] → W p l e (rX5_of mc ms) s m args below meth c H locs nc ns (MQ below (x_Qr G h0 s.heap.size post) args s mc ms (x_A h0 s.heap.size)) (F0 m 19 ls []) := by
  obtain ⟨hx, hb, hr, hml, hown, hg, hlocks, hK⟩ := id C
  intro n
  induction n with
  | zero => intro h kc ks x0 x2 x4 x5 H locs ls nc ns hw; exact absurd hw id
  | succ n ih =>
    intro h kc ks x0 x2 x4 x5 H locs ls nc ns hw hI hkc hks hl
    refine lv_iload hx hb dX5_of_19 (lv_at hl 3 rfl) ?_
    refine lv_iconst (v := 4) hx hb dX5_of_21 (by decide) ?_
    refine lv_icmp_ge (tgt := 54) hx hb dX5_of_22 (by decide) (fun hc22 => ?_) (fun hc22 => ?_)
    · have hw := hw.1 hc22
      exact hK54 _ _ _ _ _ _ _ _ _ _ _ hw hI (by omega) (by omega) (lv_sub hl [0, 1, 2] rfl)
    · have hw := hw.2 hc22
      refine lv_lload_n hx hb dX5_of_25 rfl (lv_at hl 1 rfl) ?_
      refine lv_bipush (v := 16) hx hb dX5_of_26 (by decide) ?_
      refine lv_iload hx hb dX5_of_28 (lv_at hl 3 rfl) ?_
      refine lv_imul hx hb dX5_of_30 ?_
      refine lv_lushr (v := ((x2 : Int64).toUInt64 >>> (((16 * x5) : Int32).toInt64.toUInt64 &&& Int64.toUInt64 63)).toInt64) hx hb dX5_of_31 rfl ?_
      refine lv_lconst (v := 0) hx hb dX5_of_32 (by decide) ?_
      refine W.lcmp hx hb dX5_of_33 ?_
      refine lv_if_eq (tgt := 44) hx hb dX5_of_34 (by decide) (fun hc34 => ?_) (fun hc34 => ?_)
      · have hw := hw.1 ((lg_cmp_eq _ _).mp hc34)
        refine lv_iload hx hb dX5_of_44 (lv_at hl 2 rfl) ?_
        exact mj_X5_of_46 C h0 mc ms post _ _ (ih) hK54 _ _ _ _ _ _ _ _ _ _ _ _ hw hI (by omega) (by omega) (lv_sub hl [0, 1, 3] rfl)
      · have hw := hw.2 (fun z => hc34 ((lg_cmp_eq _ _).mpr z))
        refine lv_iload hx hb dX5_of_37 (lv_at hl 3 rfl) ?_
        refine lv_iconst (v := 1) hx hb dX5_of_39 (by decide) ?_
        refine lv_iadd hx hb dX5_of_40 ?_
        refine lv_goto (tgt := 46) hx hb dX5_of_41 (by decide) ?_
        exact mj_X5_of_46 C h0 mc ms post _ _ (ih) hK54 _ _ _ _ _ _ _ _ _ _ _ _ hw hI (by omega) (by omega) (lv_sub hl [0, 1, 3] rfl)
set_option maxHeartbeats 4000000 in
set_option maxRecDepth 100000 in
theorem ml_X5_of_63 (C : CX p s m args meth c G RX5 cX5_of 7 (some (.object "ExactFilter$Whole"))) (h0 : xH) (mc ms : Nat) (post : Nat → xH → Prop) (K92 : xH → Nat → Nat → Int64 → Nat → Prop)
    (hK92 : (∀ (h : xH) (kc : Nat) (ks : Nat) (x0 : Int64) (x5 : Nat) (H : Heap) (locs : List Loc) (ls : Array Slot) (nc ns : Nat), K92 h kc ks x0 x5 → x_I G (x_A h0 s.heap.size) s.heap h H locs → nc + kc ≤ mc → ns + ks ≤ ms → lv_has ls 7 [(0, .long x0), (5, .ref x5)] → W p l e (rX5_of mc ms) s m args below meth c H locs nc ns (MQ below (x_Qr G h0 s.heap.size post) args s mc ms (x_A h0 s.heap.size)) (F0 m 92 ls []))) :
    ∀ (n : Nat) (h : xH) (kc : Nat) (ks : Nat) (x0 : Int64) (x2 : Int64) (x4 : Int32) (x5 : Nat) (x6 : Int32) (H : Heap) (locs : List Loc) (ls : Array Slot) (nc ns : Nat), wl_X5_of_63  post K92 n h kc ks x0 x2 x4 x5 x6 → x_I G (x_A h0 s.heap.size) s.heap h H locs → nc + kc ≤ mc → ns + ks ≤ ms → lv_has ls 7 [(0, .long x0), (2, .long x2), (4, .int x4), (5, .ref x5), (6, .int x6)] → W p l e (rX5_of mc ms) s m args below meth c H locs nc ns (MQ below (x_Qr G h0 s.heap.size post) args s mc ms (x_A h0 s.heap.size)) (F0 m 63 ls []) := by
  obtain ⟨hx, hb, hr, hml, hown, hg, hlocks, hK⟩ := id C
  intro n
  induction n with
  | zero => intro h kc ks x0 x2 x4 x5 x6 H locs ls nc ns hw; exact absurd hw id
  | succ n ih =>
    intro h kc ks x0 x2 x4 x5 x6 H locs ls nc ns hw hI hkc hks hl
    refine lv_iload hx hb dX5_of_63 (lv_at hl 4 rfl) ?_
    refine lv_iload hx hb dX5_of_65 (lv_at hl 2 rfl) ?_
    refine lv_icmp_ge (tgt := 92) hx hb dX5_of_67 (by decide) (fun hc67 => ?_) (fun hc67 => ?_)
    · have hw := hw.1 hc67
      exact hK92 _ _ _ _ _ _ _ _ _ _ hw hI (by omega) (by omega) (lv_sub hl [0, 3] rfl)
    · have hw := hw.2 hc67
      refine lv_aload hx hb dX5_of_70 (lv_at hl 3 rfl) ?_
      refine lv_iload hx hb dX5_of_72 (lv_at hl 4 rfl) ?_
      refine lv_lload_n hx hb dX5_of_74 rfl (lv_at hl 1 rfl) ?_
      refine lv_bipush (v := 16) hx hb dX5_of_75 (by decide) ?_
      refine lv_iload hx hb dX5_of_77 (lv_at hl 4 rfl) ?_
      refine lv_imul hx hb dX5_of_79 ?_
      refine lv_lushr (v := ((x2 : Int64).toUInt64 >>> (((16 * x6) : Int32).toInt64.toUInt64 &&& Int64.toUInt64 63)).toInt64) hx hb dX5_of_80 rfl ?_
      refine lv_l2i (v := ((((x2 : Int64).toUInt64 >>> (((16 * x6) : Int32).toInt64.toUInt64 &&& Int64.toUInt64 63)).toInt64) : Int64).toInt32) hx hb dX5_of_81 rfl ?_
      refine lv_ldc (v := 65535) hx hb hown (hg _ kc_X5_20) dX5_of_82 ?_
      refine lv_iand hx hb dX5_of_84 ?_
      obtain ⟨n_85, f_85, he_85, hw⟩ := hw
      obtain ⟨hi85, hw⟩ := hw
      refine x_iast hx hb hK hI he_85 hi85 dX5_of_85 (fun H locs hI => ?_)
      obtain ⟨h_85, eh_85⟩ : ∃ z : xH, z = x_up h x5 (.inl (0, n_85, .inl (upd f_85 (x6 : Int32).toNatClampNeg ((((((x2 : Int64).toUInt64 >>> (((16 * x6) : Int32).toInt64.toUInt64 &&& Int64.toUInt64 63)).toInt64) : Int64).toInt32) &&& 65535)))) := ⟨_, rfl⟩
      rw [← eh_85] at hI
      have hw := hw h_85 eh_85
      have heh_85 : h_85 x5 = some (.inl (0, n_85, .inl (upd f_85 (x6 : Int32).toNatClampNeg ((((((x2 : Int64).toUInt64 >>> (((16 * x6) : Int32).toInt64.toUInt64 &&& Int64.toUInt64 63)).toInt64) : Int64).toInt32) &&& 65535)))) := by rw [eh_85]; exact x_up_s
      obtain ⟨x6_86, ex6_86⟩ : ∃ y : Int32, y = x6 + 1 := ⟨_, rfl⟩
      have hw := hw x6_86 ex6_86
      refine lv_iinc (v := x6_86) (lv' := [(6, .int x6_86), (0, .long x0), (2, .long x2), (4, .int x4), (5, .ref x5)]) hx hb dX5_of_86 hl (k := 4) rfl (by rw [ex6_86]; rfl) (by decide) rfl (fun ls hl => ?_)
      refine lv_goto (tgt := 63) hx hb dX5_of_89 (by decide) ?_
      exact ih _ _ _ _ _ _ _ _ _ _ _ _ _ hw hI (by omega) (by omega) (lv_sub hl [1, 2, 3, 4, 0] rfl)
set_option maxHeartbeats 4000000 in
set_option maxRecDepth 100000 in
theorem mj_X5_of_107 (C : CX p s m args meth c G RX5 cX5_of 7 (some (.object "ExactFilter$Whole"))) (h0 : xH) (mc ms : Nat) (post : Nat → xH → Prop) 
    
    (h : xH) (kc : Nat) (ks : Nat) (x5 : Nat) (s0 : Nat) (s1 : Nat) (s2 : Int32) (H : Heap) (locs : List Loc) (ls : Array Slot) (nc ns : Nat) (hw : wj_X5_of_107  post  h kc ks x5 s0 s1 s2) (hI : x_I G (x_A h0 s.heap.size) s.heap h H locs) (hkc : nc + kc ≤ mc) (hks : ns + ks ≤ ms) (hl : lv_has ls 7 [(5, .ref x5)]) : W p l e (rX5_of mc ms) s m args below meth c H locs nc ns (MQ below (x_Qr G h0 s.heap.size post) args s mc ms (x_A h0 s.heap.size)) (F0 m 107 ls [.int s2, .ref s1, .ref s0]) := by
  obtain ⟨hx, hb, hr, hml, hown, hg, hlocks, hK⟩ := id C
  unfold wj_X5_of_107 at hw
  refine lv_aload hx hb dX5_of_107 (lv_at hl 0 rfl) ?_
  refine x_cv (va_runI (As := [.int s2, .ref x5]) (rest := [.ref s0]) ⟨hx, hb, hml, hown, hg⟩ (m_X5_init l G h  s1 s2 x5 _ hw H.size) (cwI 2 hg (x_gI kk_X5_init) rfl rfl rfl (hg _ kn_X5) (hg _ km_X5_21) (hg _ ki_X5_init) rfl (by decide +kernel) ⟨Nat.le_of_ble_eq_true rfl, Nat.le_of_ble_eq_true rfl⟩) ⟨x_blind, x_pre hI hK⟩ rfl rfl hl.1 rfl (lv_room (Nat.le_of_ble_eq_true rfl)) dX5_of_109 ⟨show nc + 0 ≤ mc by omega, show ns + 0 ≤ ms by omega⟩) hI (fun h_109 H locs hw hI => ?_)
  exact x_aret hx hb hr (by first | exact Or.inl ⟨_, rfl⟩ | exact Or.inr ⟨_, rfl⟩) hlocks hI hw (by omega) (by omega) dX5_of_112
set_option maxHeartbeats 4000000 in
set_option maxRecDepth 100000 in
theorem mj_X5_of_12 (C : CX p s m args meth c G RX5 cX5_of 7 (some (.object "ExactFilter$Whole"))) (h0 : xH) (mc ms : Nat) (post : Nat → xH → Prop) 
    
    (h : xH) (kc : Nat) (ks : Nat) (x0 : Int64) (s0 : Int64) (H : Heap) (locs : List Loc) (ls : Array Slot) (nc ns : Nat) (hw : wj_X5_of_12  post  h kc ks x0 s0) (hI : x_I G (x_A h0 s.heap.size) s.heap h H locs) (hkc : nc + kc ≤ mc) (hks : ns + ks ≤ ms) (hl : lv_has ls 7 [(0, .long x0)]) : W p l e (rX5_of mc ms) s m args below meth c H locs nc ns (MQ below (x_Qr G h0 s.heap.size post) args s mc ms (x_A h0 s.heap.size)) (F0 m 12 ls [.long s0]) := by
  obtain ⟨hx, hb, hr, hml, hown, hg, hlocks, hK⟩ := id C
  unfold wj_X5_of_12 at hw
  refine lv_lstore_n (lv' := [(2, .long s0), (0, .long x0)]) hx hb dX5_of_12 rfl hl (by decide) rfl (fun ls hl => ?_)
  refine lv_iconst (v := 0) hx hb dX5_of_13 (by decide) ?_
  refine lv_istore (lv' := [(4, .int 0), (2, .long s0), (0, .long x0)]) hx hb dX5_of_14 hl (by decide) rfl (fun ls hl => ?_)
  refine lv_iconst (v := 0) hx hb dX5_of_16 (by decide) ?_
  refine lv_istore (lv' := [(5, .int 0), (4, .int 0), (2, .long s0), (0, .long x0)]) hx hb dX5_of_17 hl (by decide) rfl (fun ls hl => ?_)
  obtain ⟨n19, hw⟩ := hw
  refine ml_X5_of_19 C h0 mc ms post _ ?_ n19 _ _ _ _ _ _ _ _ _ _ _ _ hw hI (by omega) (by omega) (lv_sub hl [3, 2, 1, 0] rfl)
  · intro h kc ks x0 x2 x4 H locs ls nc ns hw hI hkc hks hl
    refine lv_iload hx hb dX5_of_54 (lv_at hl 2 rfl) ?_
    obtain ⟨hneg56, hw⟩ := hw
    obtain ⟨z_56, hz56⟩ : ∃ z : Nat, (x4 : Int32).toNatClampNeg = z := ⟨_, rfl⟩
    obtain ⟨hz256, hkc1, hks1, hw⟩ := hw z_56 hz56
    refine x_newi hx hb (hg _ ka_int) hK hI hneg56 hz56 (by omega) (show nc + 1 ≤ mc by omega) (show ns + z_56 ≤ ms by omega) dX5_of_56 (fun q_56 H hfr56 hI => ?_)
    have hw := hw q_56 hfr56
    obtain ⟨h_56, eh_56⟩ : ∃ z : xH, z = x_up h q_56 (.inl (0, z_56, .inl (fun _ => 0))) := ⟨_, rfl⟩
    rw [← eh_56] at hI
    have hw := hw h_56 eh_56
    have heh_56 : h_56 q_56 = some (.inl (0, z_56, .inl (fun _ => 0))) := by rw [eh_56]; exact x_up_s
    refine lv_astore (lv' := [(5, .ref q_56), (0, .long x0), (2, .long x2), (4, .int x4)]) hx hb dX5_of_58 hl (by decide) rfl (fun ls hl => ?_)
    refine lv_iconst (v := 0) hx hb dX5_of_60 (by decide) ?_
    refine lv_istore (lv' := [(6, .int 0), (5, .ref q_56), (0, .long x0), (2, .long x2), (4, .int x4)]) hx hb dX5_of_61 hl (by decide) rfl (fun ls hl => ?_)
    obtain ⟨n63, hw⟩ := hw
    refine ml_X5_of_63 C h0 mc ms post _ ?_ n63 _ _ _ _ _ _ _ _ _ _ _ _ _ hw hI (by omega) (by omega) (lv_sub hl [2, 3, 4, 1, 0] rfl)
    · intro h kc ks x0 x5 H locs ls nc ns hw hI hkc hks hl
      obtain ⟨hkc1, hks1, hw⟩ := hw
      refine x_new (ci := 5) (fs := [.int 0, .null, .int 0]) (C := RX5) (T := TX5) (N := 3) hx hb hg ku_X5 tyX5 tyX5_ok hown (hg _ kl_X5_8) (hg _ kt_X5) (hg _ kn_X5) hK hI rfl (by decide +kernel) (show nc + 1 ≤ mc by omega) (show ns + 3 ≤ ms by omega) dX5_of_92 (fun q_92 H hfr92 hI => ?_)
      have hw := hw q_92 hfr92
      obtain ⟨h_92, eh_92⟩ : ∃ z : xH, z = x_up h q_92 (.inr (5, [.int 0, .null, .int 0])) := ⟨_, rfl⟩
      rw [← eh_92] at hI
      have hw := hw h_92 eh_92
      have heh_92 : h_92 q_92 = some (.inr (5, [.int 0, .null, .int 0])) := by rw [eh_92]; exact x_up_s
      refine lv_dup hx hb dX5_of_95 rfl ?_
      refine lv_lload_n hx hb dX5_of_96 rfl (lv_at hl 0 rfl) ?_
      refine lv_lconst (v := 0) hx hb dX5_of_97 (by decide) ?_
      refine W.lcmp hx hb dX5_of_98 ?_
      refine lv_if_ge (tgt := 106) hx hb dX5_of_99 (by decide) (fun hc99 => ?_) (fun hc99 => ?_)
      · have hw := hw.1 ((lg_cmp_ge _ _).mp hc99)
        refine lv_iconst (v := 1) hx hb dX5_of_106 (by decide) ?_
        exact mj_X5_of_107 C h0 mc ms post  _ _ _ _ _ _ _ _ _ _ _ _ hw hI (by omega) (by omega) (lv_sub hl [1] rfl)
      · have hw := hw.2 (fun z => hc99 ((lg_cmp_ge _ _).mpr z))
        refine lv_iconst (v := (-1)) hx hb dX5_of_102 (by decide) ?_
        refine lv_goto (tgt := 107) hx hb dX5_of_103 (by decide) ?_
        exact mj_X5_of_107 C h0 mc ms post  _ _ _ _ _ _ _ _ _ _ _ _ hw hI (by omega) (by omega) (lv_sub hl [1] rfl)
set_option maxHeartbeats 4000000 in
set_option maxRecDepth 100000 in
theorem m_X5_of (l : Launch) (G : xG) (h0 : xH) (mc ms : Nat) (x0 : Int64) (post : Nat → xH → Prop) (hw : wp_X5_of h0 mc ms x0 post) (sz : Nat) : Met l yX5_of (wu yX5_of cX5_of 7 (some (.object "ExactFilter$Whole"))) (rX5_of mc ms) (x_Pc G [.long x0] h0 sz) (x_Qr G h0 sz post) mc ms (x_A h0 sz) := by
  refine Met.ofW (cc := cX5_of) (maxL := 7) (ret := (some (.object "ExactFilter$Whole"))) (by decide) rfl ?_
  intro p e s m args below meth c s₁ B hml hv
  obtain ⟨rfl, hsz, hR, hK⟩ := hv
  subst hsz
  have C : CX p s m _ meth c G RX5 cX5_of 7 (some (.object "ExactFilter$Whole")) := ⟨B.exec, B.bytes, B.returns, hml, findClass_of_methodNamed B.named, x_hg (atoms_spec (ws := wu yX5_of cX5_of 7 (some (.object "ExactFilter$Whole"))) B.pre), B.notSynchronized, hK⟩
  obtain ⟨hx, hb, hr, hml, hown, hg, hlocks, hK⟩ := id C
  have hI : x_I G (x_A h0 s.heap.size) s.heap h0 s.heap [] := x_I.start hR
  have hkc : 0 + mc ≤ mc := by omega
  have hks : 0 + ms ≤ ms := by omega
  have hl := lv_entry ([.long x0]) (n := 7) (Nat.le_of_ble_eq_true rfl)
  rw [lg_entry_eq]
  generalize (lg_sl ([.long x0]) ++ List.replicate (7 - (lg_sl ([.long x0])).length) Slot.unset).toArray = ls at hl ⊢
  have hl : lv_has ls 7 [(0, .long x0)] := hl
  unfold wp_X5_of at hw
  refine lv_lload_n hx hb dX5_of_0 rfl (lv_at hl 0 rfl) ?_
  refine lv_lconst (v := 0) hx hb dX5_of_1 (by decide) ?_
  refine W.lcmp hx hb dX5_of_2 ?_
  refine lv_if_ge (tgt := 11) hx hb dX5_of_3 (by decide) (fun hc3 => ?_) (fun hc3 => ?_)
  · have hw := hw.1 ((lg_cmp_ge _ _).mp hc3)
    refine lv_lload_n hx hb dX5_of_11 rfl (lv_at hl 0 rfl) ?_
    exact mj_X5_of_12 C h0 mc ms post  _ _ _ _ _ _ _ _ _ _ hw hI (by omega) (by omega) (lv_sub hl [0] rfl)
  · have hw := hw.2 (fun z => hc3 ((lg_cmp_ge _ _).mpr z))
    refine lv_lload_n hx hb dX5_of_6 rfl (lv_at hl 0 rfl) ?_
    refine lv_lneg hx hb dX5_of_7 ?_
    refine lv_goto (tgt := 12) hx hb dX5_of_8 (by decide) ?_
    exact mj_X5_of_12 C h0 mc ms post  _ _ _ _ _ _ _ _ _ _ hw hI (by omega) (by omega) (lv_sub hl [0] rfl)
-- ===== ExactFilter$Whole.sense
abbrev rX5_sense  : Room := { frames := 0, cells := 0, slots := 0, locals := 0 }
def wp_X5_sense (h0 : xH)  (x0 : Nat) (post : Int32 → Prop) : Prop := ∃ fs_1 : List Value, h0 x0 = some (.inr (5, fs_1)) ∧ ∃ v_1 : Int32, fs_1[0]? = some (.int v_1) ∧ post v_1
set_option maxHeartbeats 4000000 in
set_option maxRecDepth 100000 in
theorem m_X5_sense (l : Launch) (G : xG) (h0 : xH)  (x0 : Nat) (post : Int32 → Prop) (hw : wp_X5_sense h0  x0 post) (sz : Nat) : Met l yX5_sense (wu yX5_sense cX5_sense 1 (some .int)) (rX5_sense) (x_Pc G [.ref x0] h0 sz) (x_Qi G h0 sz (fun r9 h9 => h9 = h0 ∧ post r9)) 0 0 (x_A h0 sz) := by
  refine Met.ofW (cc := cX5_sense) (maxL := 1) (ret := (some .int)) (by decide) rfl ?_
  intro p e s m args below meth c s₁ B hml hv
  obtain ⟨rfl, hsz, hR, hK⟩ := hv
  subst hsz
  have C : CX p s m _ meth c G RX5 cX5_sense 1 (some .int) := ⟨B.exec, B.bytes, B.returns, hml, findClass_of_methodNamed B.named, x_hg (atoms_spec (ws := wu yX5_sense cX5_sense 1 (some .int)) B.pre), B.notSynchronized, hK⟩
  obtain ⟨hx, hb, hr, hml, hown, hg, hlocks, hK⟩ := id C
  have hI : x_I G (x_A h0 s.heap.size) s.heap h0 s.heap [] := x_I.start hR
  have hkc : 0 + 0 ≤ 0 := by omega
  have hks : 0 + 0 ≤ 0 := by omega
  have hl := lv_entry ([.ref x0]) (n := 1) (Nat.le_of_ble_eq_true rfl)
  rw [lg_entry_eq]
  generalize (lg_sl ([.ref x0]) ++ List.replicate (1 - (lg_sl ([.ref x0])).length) Slot.unset).toArray = ls at hl ⊢
  have hl : lv_has ls 1 [(0, .ref x0)] := hl
  unfold wp_X5_sense at hw
  refine lv_aload_n hx hb dX5_sense_0 rfl (lv_at hl 0 rfl) ?_
  obtain ⟨fs_1, he_1, hw⟩ := hw
  obtain ⟨v_1, hv_1, hw⟩ := hw
  refine x_get (ci := 5) (C := RX5) (T := TX5) (N := 3) hx hb hg ku_X5 hown hK hI he_1 rfl 0 (by decide) (hg _ kf_X5_7) (fun _ h9 => h9) hv_1 dX5_sense_1 ?_
  exact x_iret hx hb hr hlocks hI ⟨rfl, hw⟩ (by omega) (by omega) dX5_sense_4
-- ===== ExactFilter$Whole.length
abbrev rX5_length  : Room := { frames := 0, cells := 0, slots := 0, locals := 0 }
def wp_X5_length (h0 : xH)  (x0 : Nat) (post : Int32 → Prop) : Prop := ∃ fs_1 : List Value, h0 x0 = some (.inr (5, fs_1)) ∧ ∃ v_1 : Int32, fs_1[2]? = some (.int v_1) ∧ post v_1
set_option maxHeartbeats 4000000 in
set_option maxRecDepth 100000 in
theorem m_X5_length (l : Launch) (G : xG) (h0 : xH)  (x0 : Nat) (post : Int32 → Prop) (hw : wp_X5_length h0  x0 post) (sz : Nat) : Met l yX5_length (wu yX5_length cX5_length 1 (some .int)) (rX5_length) (x_Pc G [.ref x0] h0 sz) (x_Qi G h0 sz (fun r9 h9 => h9 = h0 ∧ post r9)) 0 0 (x_A h0 sz) := by
  refine Met.ofW (cc := cX5_length) (maxL := 1) (ret := (some .int)) (by decide) rfl ?_
  intro p e s m args below meth c s₁ B hml hv
  obtain ⟨rfl, hsz, hR, hK⟩ := hv
  subst hsz
  have C : CX p s m _ meth c G RX5 cX5_length 1 (some .int) := ⟨B.exec, B.bytes, B.returns, hml, findClass_of_methodNamed B.named, x_hg (atoms_spec (ws := wu yX5_length cX5_length 1 (some .int)) B.pre), B.notSynchronized, hK⟩
  obtain ⟨hx, hb, hr, hml, hown, hg, hlocks, hK⟩ := id C
  have hI : x_I G (x_A h0 s.heap.size) s.heap h0 s.heap [] := x_I.start hR
  have hkc : 0 + 0 ≤ 0 := by omega
  have hks : 0 + 0 ≤ 0 := by omega
  have hl := lv_entry ([.ref x0]) (n := 1) (Nat.le_of_ble_eq_true rfl)
  rw [lg_entry_eq]
  generalize (lg_sl ([.ref x0]) ++ List.replicate (1 - (lg_sl ([.ref x0])).length) Slot.unset).toArray = ls at hl ⊢
  have hl : lv_has ls 1 [(0, .ref x0)] := hl
  unfold wp_X5_length at hw
  refine lv_aload_n hx hb dX5_length_0 rfl (lv_at hl 0 rfl) ?_
  obtain ⟨fs_1, he_1, hw⟩ := hw
  obtain ⟨v_1, hv_1, hw⟩ := hw
  refine x_get (ci := 5) (C := RX5) (T := TX5) (N := 3) hx hb hg ku_X5 hown hK hI he_1 rfl 2 (by decide) (hg _ kf_X5_17) (fun _ h9 => h9) hv_1 dX5_length_1 ?_
  exact x_iret hx hb hr hlocks hI ⟨rfl, hw⟩ (by omega) (by omega) dX5_length_4
-- ===== ExactFilter$Whole.digit
abbrev rX5_digit  : Room := { frames := 0, cells := 0, slots := 0, locals := 0 }
def wj_X5_digit_22 (h0 : xH) (post : Int32 → Prop)  (s0 : Int32) : Prop := post s0
def wj_X5_digit_21 (h0 : xH) (post : Int32 → Prop)   : Prop := wj_X5_digit_22 h0 post  0
def wp_X5_digit (h0 : xH)  (x0 : Nat) (x1 : Int32) (post : Int32 → Prop) : Prop := (x1 < 0 → wj_X5_digit_21 h0 post  ) ∧ (¬ x1 < 0 → ∃ fs_6 : List Value, h0 x0 = some (.inr (5, fs_6)) ∧ ∃ v_6 : Int32, fs_6[2]? = some (.int v_6) ∧ (v_6 ≤ x1 → wj_X5_digit_21 h0 post  ) ∧ (¬ v_6 ≤ x1 → ∃ v_13 : Nat, fs_6[1]? = some (.ref v_13) ∧ ∃ (n_17 : Nat) (f_17 : Nat → Int32), h0 v_13 = some (.inl (0, n_17, .inl f_17)) ∧ vp_in x1 n_17 ∧ wj_X5_digit_22 h0 post  (f_17 (x1 : Int32).toNatClampNeg)))
set_option maxHeartbeats 4000000 in
set_option maxRecDepth 100000 in
theorem mj_X5_digit_22 (C : CX p s m args meth c G RX5 cX5_digit 2 (some .int)) (h0 : xH) (post : Int32 → Prop) 
    
    (s0 : Int32) (H : Heap) (locs : List Loc) (ls : Array Slot) (nc ns : Nat) (hw : wj_X5_digit_22 h0 post  s0) (hI : x_I G (x_A h0 s.heap.size) s.heap h0 H locs) (hkc : nc + 0 ≤ 0) (hks : ns + 0 ≤ 0) (hl : lv_has ls 2 []) : W p l e (rX5_digit) s m args below meth c H locs nc ns (MQ below (x_Qi G h0 s.heap.size (fun r9 h9 => h9 = h0 ∧ post r9)) args s 0 0 (x_A h0 s.heap.size)) (F0 m 22 ls [.int s0]) := by
  obtain ⟨hx, hb, hr, hml, hown, hg, hlocks, hK⟩ := id C
  unfold wj_X5_digit_22 at hw
  exact x_iret hx hb hr hlocks hI ⟨rfl, hw⟩ (by omega) (by omega) dX5_digit_22
set_option maxHeartbeats 4000000 in
set_option maxRecDepth 100000 in
theorem mj_X5_digit_21 (C : CX p s m args meth c G RX5 cX5_digit 2 (some .int)) (h0 : xH) (post : Int32 → Prop) 
    
     (H : Heap) (locs : List Loc) (ls : Array Slot) (nc ns : Nat) (hw : wj_X5_digit_21 h0 post  ) (hI : x_I G (x_A h0 s.heap.size) s.heap h0 H locs) (hkc : nc + 0 ≤ 0) (hks : ns + 0 ≤ 0) (hl : lv_has ls 2 []) : W p l e (rX5_digit) s m args below meth c H locs nc ns (MQ below (x_Qi G h0 s.heap.size (fun r9 h9 => h9 = h0 ∧ post r9)) args s 0 0 (x_A h0 s.heap.size)) (F0 m 21 ls []) := by
  obtain ⟨hx, hb, hr, hml, hown, hg, hlocks, hK⟩ := id C
  unfold wj_X5_digit_21 at hw
  refine lv_iconst (v := 0) hx hb dX5_digit_21 (by decide) ?_
  exact mj_X5_digit_22 C h0 post  _ _ _ _ _ _ hw hI (by omega) (by omega) (lv_sub hl [] rfl)
set_option maxHeartbeats 4000000 in
set_option maxRecDepth 100000 in
theorem m_X5_digit (l : Launch) (G : xG) (h0 : xH)  (x0 : Nat) (x1 : Int32) (post : Int32 → Prop) (hw : wp_X5_digit h0  x0 x1 post) (sz : Nat) : Met l yX5_digit (wu yX5_digit cX5_digit 2 (some .int)) (rX5_digit) (x_Pc G [.ref x0, .int x1] h0 sz) (x_Qi G h0 sz (fun r9 h9 => h9 = h0 ∧ post r9)) 0 0 (x_A h0 sz) := by
  refine Met.ofW (cc := cX5_digit) (maxL := 2) (ret := (some .int)) (by decide) rfl ?_
  intro p e s m args below meth c s₁ B hml hv
  obtain ⟨rfl, hsz, hR, hK⟩ := hv
  subst hsz
  have C : CX p s m _ meth c G RX5 cX5_digit 2 (some .int) := ⟨B.exec, B.bytes, B.returns, hml, findClass_of_methodNamed B.named, x_hg (atoms_spec (ws := wu yX5_digit cX5_digit 2 (some .int)) B.pre), B.notSynchronized, hK⟩
  obtain ⟨hx, hb, hr, hml, hown, hg, hlocks, hK⟩ := id C
  have hI : x_I G (x_A h0 s.heap.size) s.heap h0 s.heap [] := x_I.start hR
  have hkc : 0 + 0 ≤ 0 := by omega
  have hks : 0 + 0 ≤ 0 := by omega
  have hl := lv_entry ([.ref x0, .int x1]) (n := 2) (Nat.le_of_ble_eq_true rfl)
  rw [lg_entry_eq]
  generalize (lg_sl ([.ref x0, .int x1]) ++ List.replicate (2 - (lg_sl ([.ref x0, .int x1])).length) Slot.unset).toArray = ls at hl ⊢
  have hl : lv_has ls 2 [(0, .ref x0), (1, .int x1)] := hl
  unfold wp_X5_digit at hw
  refine lv_iload_n hx hb dX5_digit_0 rfl (lv_at hl 1 rfl) ?_
  refine lv_if_lt (tgt := 21) hx hb dX5_digit_1 (by decide) (fun hc1 => ?_) (fun hc1 => ?_)
  · have hw := hw.1 hc1
    exact mj_X5_digit_21 C h0 post   _ _ _ _ _ hw hI (by omega) (by omega) (lv_sub hl [] rfl)
  · have hw := hw.2 hc1
    refine lv_iload_n hx hb dX5_digit_4 rfl (lv_at hl 1 rfl) ?_
    refine lv_aload_n hx hb dX5_digit_5 rfl (lv_at hl 0 rfl) ?_
    obtain ⟨fs_6, he_6, hw⟩ := hw
    obtain ⟨v_6, hv_6, hw⟩ := hw
    refine x_get (ci := 5) (C := RX5) (T := TX5) (N := 3) hx hb hg ku_X5 hown hK hI he_6 rfl 2 (by decide) (hg _ kf_X5_17) (fun _ h9 => h9) hv_6 dX5_digit_6 ?_
    refine lv_icmp_ge (tgt := 21) hx hb dX5_digit_9 (by decide) (fun hc9 => ?_) (fun hc9 => ?_)
    · have hw := hw.1 hc9
      exact mj_X5_digit_21 C h0 post   _ _ _ _ _ hw hI (by omega) (by omega) (lv_sub hl [] rfl)
    · have hw := hw.2 hc9
      refine lv_aload_n hx hb dX5_digit_12 rfl (lv_at hl 0 rfl) ?_
      obtain ⟨v_13, hv_13, hw⟩ := hw
      refine x_get (ci := 5) (C := RX5) (T := TX5) (N := 3) hx hb hg ku_X5 hown hK hI he_6 rfl 1 (by decide) (hg _ kf_X5_13) (fun _ h9 => h9) hv_13 dX5_digit_13 ?_
      refine lv_iload_n hx hb dX5_digit_16 rfl (lv_at hl 1 rfl) ?_
      obtain ⟨n_17, f_17, he_17, hw⟩ := hw
      obtain ⟨hi17, hw⟩ := hw
      refine x_iald hx hb hK hI he_17 hi17 dX5_digit_17 ?_
      refine lv_goto (tgt := 22) hx hb dX5_digit_18 (by decide) ?_
      exact mj_X5_digit_22 C h0 post  _ _ _ _ _ _ hw hI (by omega) (by omega) (lv_sub hl [] rfl)
-- ===== ExactFilter$Whole.copyOfDigits
abbrev rX5_copyOfDigits (mc ms : Nat) : Room := { frames := 3, cells := mc, slots := ms, locals := 82 }
def wp_X5_copyOfDigits (h0 : xH) (mc ms : Nat) (x0 : Nat) (post : Nat → xH → Prop) : Prop := ∃ fs_1 : List Value, h0 x0 = some (.inr (5, fs_1)) ∧ ∃ v_1 : Nat, fs_1[1]? = some (.ref v_1) ∧ ∃ v_5 : Int32, fs_1[2]? = some (.int v_5) ∧ ∃ mc_8 ms_8 : Nat, mc_8 ≤ mc ∧ ms_8 ≤ ms ∧ wp_J7_copyOf h0 mc_8 ms_8 v_1 v_5 (fun (r_8 : Nat) (h_8 : xH) => post r_8 h_8)
set_option maxHeartbeats 4000000 in
set_option maxRecDepth 100000 in
theorem m_X5_copyOfDigits (l : Launch) (G : xG) (h0 : xH) (mc ms : Nat) (x0 : Nat) (post : Nat → xH → Prop) (hw : wp_X5_copyOfDigits h0 mc ms x0 post) (sz : Nat) : Met l yX5_copyOfDigits (wu yX5_copyOfDigits cX5_copyOfDigits 1 (some (.array .int))) (rX5_copyOfDigits mc ms) (x_Pc G [.ref x0] h0 sz) (x_Qr G h0 sz post) mc ms (x_A h0 sz) := by
  refine Met.ofW (cc := cX5_copyOfDigits) (maxL := 1) (ret := (some (.array .int))) (by decide) rfl ?_
  intro p e s m args below meth c s₁ B hml hv
  obtain ⟨rfl, hsz, hR, hK⟩ := hv
  subst hsz
  have C : CX p s m _ meth c G RX5 cX5_copyOfDigits 1 (some (.array .int)) := ⟨B.exec, B.bytes, B.returns, hml, findClass_of_methodNamed B.named, x_hg (atoms_spec (ws := wu yX5_copyOfDigits cX5_copyOfDigits 1 (some (.array .int))) B.pre), B.notSynchronized, hK⟩
  obtain ⟨hx, hb, hr, hml, hown, hg, hlocks, hK⟩ := id C
  have hI : x_I G (x_A h0 s.heap.size) s.heap h0 s.heap [] := x_I.start hR
  have hkc : 0 + mc ≤ mc := by omega
  have hks : 0 + ms ≤ ms := by omega
  have hl := lv_entry ([.ref x0]) (n := 1) (Nat.le_of_ble_eq_true rfl)
  rw [lg_entry_eq]
  generalize (lg_sl ([.ref x0]) ++ List.replicate (1 - (lg_sl ([.ref x0])).length) Slot.unset).toArray = ls at hl ⊢
  have hl : lv_has ls 1 [(0, .ref x0)] := hl
  unfold wp_X5_copyOfDigits at hw
  refine lv_aload_n hx hb dX5_copyOfDigits_0 rfl (lv_at hl 0 rfl) ?_
  obtain ⟨fs_1, he_1, hw⟩ := hw
  obtain ⟨v_1, hv_1, hw⟩ := hw
  refine x_get (ci := 5) (C := RX5) (T := TX5) (N := 3) hx hb hg ku_X5 hown hK hI he_1 rfl 1 (by decide) (hg _ kf_X5_13) (fun _ h9 => h9) hv_1 dX5_copyOfDigits_1 ?_
  refine lv_aload_n hx hb dX5_copyOfDigits_4 rfl (lv_at hl 0 rfl) ?_
  obtain ⟨v_5, hv_5, hw⟩ := hw
  refine x_get (ci := 5) (C := RX5) (T := TX5) (N := 3) hx hb hg ku_X5 hown hK hI he_1 rfl 2 (by decide) (hg _ kf_X5_17) (fun _ h9 => h9) hv_5 dX5_copyOfDigits_5 ?_
  obtain ⟨mc_8, ms_8, hkc1, hks1, hw⟩ := hw
  refine x_cr (va_runS (As := [.ref v_1, .int v_5]) (rest := []) ⟨hx, hb, hml, hown, hg⟩ (m_J7_copyOf l G h0 mc_8 ms_8 v_1 v_5 _ hw s.heap.size) (va_cwS 2 hg (x_gS km_X5_24 ks_J7_copyOf_59c91 kn_J7 kk_J7_copyOf_59c91) rfl rfl rfl (by decide +kernel) ⟨Nat.le_of_ble_eq_true rfl, Nat.le_of_ble_eq_true rfl⟩) ⟨x_blind, x_pre hI hK⟩ rfl rfl hl.1 rfl (lv_room (Nat.le_of_ble_eq_true rfl)) dX5_copyOfDigits_8 ⟨show 0 + mc_8 ≤ mc by omega, show 0 + ms_8 ≤ ms by omega⟩) hI (fun r_8 h_8 H locs hw hI => ?_)
  exact x_aret hx hb hr (by first | exact Or.inl ⟨_, rfl⟩ | exact Or.inr ⟨_, rfl⟩) hlocks hI hw (by omega) (by omega) dX5_copyOfDigits_11
-- ===== ExactFilter$Whole.asLong
abbrev rX5_asLong  : Room := { frames := 1, cells := 0, slots := 0, locals := 21 }
def wl_X5_asLong_4 (h0 : xH) (post : Int64 → Prop) (K29 : Nat → Int64 → Prop) : Nat → Nat → Int64 → Int32 → Prop
  | 0, _, _, _ => False
  | n + 1, x0, x1, x3 => (4 ≤ x3 → K29 x0 x1) ∧ (¬ 4 ≤ x3 → ∃ fs_12 : List Value, h0 x0 = some (.inr (5, fs_12)) ∧ wp_X5_digit h0  x0 x3 (fun (r_12 : Int32) => ∀ (x1_22 : Int64), x1_22 = (x1 ||| (((r_12 : Int32).toInt64) <<< (((16 * x3) : Int32).toInt64 &&& 63))) → ∀ (x3_23 : Int32), x3_23 = x3 + 1 → wl_X5_asLong_4 h0 post K29 n x0 x1_22 x3_23))
def wj_X5_asLong_42 (h0 : xH) (post : Int64 → Prop)  (s0 : Int64) : Prop := post s0
def wp_X5_asLong (h0 : xH)  (x0 : Nat) (post : Int64 → Prop) : Prop := ∃ n4 : Nat, wl_X5_asLong_4 h0 post (fun (x0 : Nat) (x1 : Int64) => ∃ fs_30 : List Value, h0 x0 = some (.inr (5, fs_30)) ∧ ∃ v_30 : Int32, fs_30[0]? = some (.int v_30) ∧ (0 ≤ v_30 → wj_X5_asLong_42 h0 post  x1) ∧ (¬ 0 ≤ v_30 → wj_X5_asLong_42 h0 post  (-x1))) n4 x0 0 0
set_option maxHeartbeats 4000000 in
set_option maxRecDepth 100000 in
theorem ml_X5_asLong_4 (C : CX p s m args meth c G RX5 cX5_asLong 4 (some .long)) (h0 : xH) (post : Int64 → Prop) (K29 : Nat → Int64 → Prop)
    (hK29 : (∀ (x0 : Nat) (x1 : Int64) (H : Heap) (locs : List Loc) (ls : Array Slot) (nc ns : Nat), K29 x0 x1 → x_I G (x_A h0 s.heap.size) s.heap h0 H locs → nc + 0 ≤ 0 → ns + 0 ≤ 0 → lv_has ls 4 [(0, .ref x0), (1, .long x1)] → W p l e (rX5_asLong) s m args below meth c H locs nc ns (MQ below (x_Ql G h0 s.heap.size (fun r9 h9 => h9 = h0 ∧ post r9)) args s 0 0 (x_A h0 s.heap.size)) (F0 m 29 ls []))) :
    ∀ (n : Nat) (x0 : Nat) (x1 : Int64) (x3 : Int32) (H : Heap) (locs : List Loc) (ls : Array Slot) (nc ns : Nat), wl_X5_asLong_4 h0 post K29 n x0 x1 x3 → x_I G (x_A h0 s.heap.size) s.heap h0 H locs → nc + 0 ≤ 0 → ns + 0 ≤ 0 → lv_has ls 4 [(0, .ref x0), (1, .long x1), (3, .int x3)] → W p l e (rX5_asLong) s m args below meth c H locs nc ns (MQ below (x_Ql G h0 s.heap.size (fun r9 h9 => h9 = h0 ∧ post r9)) args s 0 0 (x_A h0 s.heap.size)) (F0 m 4 ls []) := by
  obtain ⟨hx, hb, hr, hml, hown, hg, hlocks, hK⟩ := id C
  intro n
  induction n with
  | zero => intro x0 x1 x3 H locs ls nc ns hw; exact absurd hw id
  | succ n ih =>
    intro x0 x1 x3 H locs ls nc ns hw hI hkc hks hl
    refine lv_iload_n hx hb dX5_asLong_4 rfl (lv_at hl 2 rfl) ?_
    refine lv_iconst (v := 4) hx hb dX5_asLong_5 (by decide) ?_
    refine lv_icmp_ge (tgt := 29) hx hb dX5_asLong_6 (by decide) (fun hc6 => ?_) (fun hc6 => ?_)
    · have hw := hw.1 hc6
      exact hK29 _ _ _ _ _ _ _ hw hI (by omega) (by omega) (lv_sub hl [0, 1] rfl)
    · have hw := hw.2 hc6
      refine lv_lload_n hx hb dX5_asLong_9 rfl (lv_at hl 1 rfl) ?_
      refine lv_aload_n hx hb dX5_asLong_10 rfl (lv_at hl 0 rfl) ?_
      refine lv_iload_n hx hb dX5_asLong_11 rfl (lv_at hl 2 rfl) ?_
      obtain ⟨fs_12, he_12, hw⟩ := hw
      refine x_ci (va_runV (As := [.int x3]) (rest := [.long x1]) ⟨hx, hb, hml, hown, hg⟩ (m_X5_digit l G h0  x0 x3 _ hw H.size) (cwV 1 hg (x_gV km_X5_30 ki_X5_digit kz_X5_X5_digit kn_X5 kk_X5_digit) rfl rfl rfl (by decide +kernel) ⟨Nat.le_of_ble_eq_true rfl, Nat.le_of_ble_eq_true rfl⟩) ⟨x_blind, x_recv hI hK he_12 rfl rfl, x_pre hI hK⟩ rfl rfl hl.1 rfl (lv_room (Nat.le_of_ble_eq_true rfl)) dX5_asLong_12 ⟨show nc + 0 ≤ 0 by omega, show ns + 0 ≤ 0 by omega⟩) hI (fun r_12 h_12 H locs hw hI => ?_)
      obtain ⟨eh_12, hw⟩ := hw
      rw [eh_12] at hI
      refine lv_i2l (v := (r_12 : Int32).toInt64) hx hb dX5_asLong_15 rfl ?_
      refine lv_bipush (v := 16) hx hb dX5_asLong_16 (by decide) ?_
      refine lv_iload_n hx hb dX5_asLong_18 rfl (lv_at hl 2 rfl) ?_
      refine lv_imul hx hb dX5_asLong_19 ?_
      refine lv_lshl (v := (((r_12 : Int32).toInt64) <<< (((16 * x3) : Int32).toInt64 &&& 63))) hx hb dX5_asLong_20 rfl ?_
      refine lv_lor hx hb dX5_asLong_21 ?_
      refine lv_topl (fun x1_22 ex1_22 => ?_)
      have hw := hw x1_22 ex1_22
      refine lv_lstore_n (lv' := [(1, .long x1_22), (0, .ref x0), (3, .int x3)]) hx hb dX5_asLong_22 rfl hl (by decide) rfl (fun ls hl => ?_)
      obtain ⟨x3_23, ex3_23⟩ : ∃ y : Int32, y = x3 + 1 := ⟨_, rfl⟩
      have hw := hw x3_23 ex3_23
      refine lv_iinc (v := x3_23) (lv' := [(3, .int x3_23), (1, .long x1_22), (0, .ref x0)]) hx hb dX5_asLong_23 hl (k := 2) rfl (by rw [ex3_23]; rfl) (by decide) rfl (fun ls hl => ?_)
      refine lv_goto (tgt := 4) hx hb dX5_asLong_26 (by decide) ?_
      exact ih _ _ _ _ _ _ _ _ hw hI (by omega) (by omega) (lv_sub hl [2, 1, 0] rfl)
set_option maxHeartbeats 4000000 in
set_option maxRecDepth 100000 in
theorem mj_X5_asLong_42 (C : CX p s m args meth c G RX5 cX5_asLong 4 (some .long)) (h0 : xH) (post : Int64 → Prop) 
    
    (s0 : Int64) (H : Heap) (locs : List Loc) (ls : Array Slot) (nc ns : Nat) (hw : wj_X5_asLong_42 h0 post  s0) (hI : x_I G (x_A h0 s.heap.size) s.heap h0 H locs) (hkc : nc + 0 ≤ 0) (hks : ns + 0 ≤ 0) (hl : lv_has ls 4 []) : W p l e (rX5_asLong) s m args below meth c H locs nc ns (MQ below (x_Ql G h0 s.heap.size (fun r9 h9 => h9 = h0 ∧ post r9)) args s 0 0 (x_A h0 s.heap.size)) (F0 m 42 ls [.long s0]) := by
  obtain ⟨hx, hb, hr, hml, hown, hg, hlocks, hK⟩ := id C
  unfold wj_X5_asLong_42 at hw
  exact x_lret hx hb hr hlocks hI ⟨rfl, hw⟩ (by omega) (by omega) dX5_asLong_42
set_option maxHeartbeats 4000000 in
set_option maxRecDepth 100000 in
theorem m_X5_asLong (l : Launch) (G : xG) (h0 : xH)  (x0 : Nat) (post : Int64 → Prop) (hw : wp_X5_asLong h0  x0 post) (sz : Nat) : Met l yX5_asLong (wu yX5_asLong cX5_asLong 4 (some .long)) (rX5_asLong) (x_Pc G [.ref x0] h0 sz) (x_Ql G h0 sz (fun r9 h9 => h9 = h0 ∧ post r9)) 0 0 (x_A h0 sz) := by
  refine Met.ofW (cc := cX5_asLong) (maxL := 4) (ret := (some .long)) (by decide) rfl ?_
  intro p e s m args below meth c s₁ B hml hv
  obtain ⟨rfl, hsz, hR, hK⟩ := hv
  subst hsz
  have C : CX p s m _ meth c G RX5 cX5_asLong 4 (some .long) := ⟨B.exec, B.bytes, B.returns, hml, findClass_of_methodNamed B.named, x_hg (atoms_spec (ws := wu yX5_asLong cX5_asLong 4 (some .long)) B.pre), B.notSynchronized, hK⟩
  obtain ⟨hx, hb, hr, hml, hown, hg, hlocks, hK⟩ := id C
  have hI : x_I G (x_A h0 s.heap.size) s.heap h0 s.heap [] := x_I.start hR
  have hkc : 0 + 0 ≤ 0 := by omega
  have hks : 0 + 0 ≤ 0 := by omega
  have hl := lv_entry ([.ref x0]) (n := 4) (Nat.le_of_ble_eq_true rfl)
  rw [lg_entry_eq]
  generalize (lg_sl ([.ref x0]) ++ List.replicate (4 - (lg_sl ([.ref x0])).length) Slot.unset).toArray = ls at hl ⊢
  have hl : lv_has ls 4 [(0, .ref x0)] := hl
  unfold wp_X5_asLong at hw
  refine lv_lconst (v := 0) hx hb dX5_asLong_0 (by decide) ?_
  refine lv_lstore_n (lv' := [(1, .long 0), (0, .ref x0)]) hx hb dX5_asLong_1 rfl hl (by decide) rfl (fun ls hl => ?_)
  refine lv_iconst (v := 0) hx hb dX5_asLong_2 (by decide) ?_
  refine lv_istore_n (lv' := [(3, .int 0), (1, .long 0), (0, .ref x0)]) hx hb dX5_asLong_3 rfl hl (by decide) rfl (fun ls hl => ?_)
  obtain ⟨n4, hw⟩ := hw
  refine ml_X5_asLong_4 C h0 post _ ?_ n4 _ _ _ _ _ _ _ _ hw hI (by omega) (by omega) (lv_sub hl [2, 1, 0] rfl)
  · intro x0 x1 H locs ls nc ns hw hI hkc hks hl
    refine lv_aload_n hx hb dX5_asLong_29 rfl (lv_at hl 0 rfl) ?_
    obtain ⟨fs_30, he_30, hw⟩ := hw
    obtain ⟨v_30, hv_30, hw⟩ := hw
    refine x_get (ci := 5) (C := RX5) (T := TX5) (N := 3) hx hb hg ku_X5 hown hK hI he_30 rfl 0 (by decide) (hg _ kf_X5_7) (fun _ h9 => h9) hv_30 dX5_asLong_30 ?_
    refine lv_if_ge (tgt := 41) hx hb dX5_asLong_33 (by decide) (fun hc33 => ?_) (fun hc33 => ?_)
    · have hw := hw.1 hc33
      refine lv_lload_n hx hb dX5_asLong_41 rfl (lv_at hl 1 rfl) ?_
      exact mj_X5_asLong_42 C h0 post  _ _ _ _ _ _ hw hI (by omega) (by omega) (lv_sub hl [] rfl)
    · have hw := hw.2 hc33
      refine lv_lload_n hx hb dX5_asLong_36 rfl (lv_at hl 1 rfl) ?_
      refine lv_lneg hx hb dX5_asLong_37 ?_
      refine lv_goto (tgt := 42) hx hb dX5_asLong_38 (by decide) ?_
      exact mj_X5_asLong_42 C h0 post  _ _ _ _ _ _ hw hI (by omega) (by omega) (lv_sub hl [] rfl)
-- ===== ExactFilter$Whole.sizeAgainst
abbrev rX5_sizeAgainst  : Room := { frames := 1, cells := 0, slots := 0, locals := 21 }
def wl_X5_sizeAgainst_14 (h0 : xH) (post : Int32 → Prop) (K31 : Nat → Nat → Int32 → Prop) (K56 : Prop) : Nat → Nat → Nat → Int32 → Prop
  | 0, _, _, _ => False
  | n + 1, x0, x1, x2 => (x2 < 0 → K56 ) ∧ (¬ x2 < 0 → ∃ fs_20 : List Value, h0 x0 = some (.inr (5, fs_20)) ∧ wp_X5_digit h0  x0 x2 (fun (r_20 : Int32) => ∃ fs_25 : List Value, h0 x1 = some (.inr (5, fs_25)) ∧ wp_X5_digit h0  x1 x2 (fun (r_25 : Int32) => (r_20 = r_25 → ∀ (x2_50 : Int32), x2_50 = x2 + (-1) → wl_X5_sizeAgainst_14 h0 post K31 K56 n x0 x1 x2_50) ∧ (¬ r_20 = r_25 → K31 x0 x1 x2))))
def wj_X5_sizeAgainst_49 (h0 : xH) (post : Int32 → Prop)  (s0 : Int32) : Prop := post s0
def wp_X5_sizeAgainst (h0 : xH)  (x0 : Nat) (x1 : Nat) (post : Int32 → Prop) : Prop := ∃ fs_1 : List Value, h0 x0 = some (.inr (5, fs_1)) ∧ ∃ v_1 : Int32, fs_1[2]? = some (.int v_1) ∧ ∃ fs_5 : List Value, h0 x1 = some (.inr (5, fs_5)) ∧ ∃ v_5 : Int32, fs_5[2]? = some (.int v_5) ∧ ∀ (x2_13 : Int32), x2_13 = ((if v_1 < v_5 then v_5 else v_1) - 1) → ∃ n14 : Nat, wl_X5_sizeAgainst_14 h0 post (fun (x0 : Nat) (x1 : Nat) (x2 : Int32) => ∃ fs_33 : List Value, h0 x0 = some (.inr (5, fs_33)) ∧ wp_X5_digit h0  x0 x2 (fun (r_33 : Int32) => ∃ fs_38 : List Value, h0 x1 = some (.inr (5, fs_38)) ∧ wp_X5_digit h0  x1 x2 (fun (r_38 : Int32) => (r_38 ≤ r_33 → wj_X5_sizeAgainst_49 h0 post  1) ∧ (¬ r_38 ≤ r_33 → wj_X5_sizeAgainst_49 h0 post  (-1))))) (post 0) n14 x0 x1 x2_13
set_option maxHeartbeats 4000000 in
set_option maxRecDepth 100000 in
theorem ml_X5_sizeAgainst_14 (C : CX p s m args meth c G RX5 cX5_sizeAgainst 3 (some .int)) (h0 : xH) (post : Int32 → Prop) (K31 : Nat → Nat → Int32 → Prop) (K56 : Prop)
    (hK31 : (∀ (x0 : Nat) (x1 : Nat) (x2 : Int32) (H : Heap) (locs : List Loc) (ls : Array Slot) (nc ns : Nat), K31 x0 x1 x2 → x_I G (x_A h0 s.heap.size) s.heap h0 H locs → nc + 0 ≤ 0 → ns + 0 ≤ 0 → lv_has ls 3 [(0, .ref x0), (1, .ref x1), (2, .int x2)] → W p l e (rX5_sizeAgainst) s m args below meth c H locs nc ns (MQ below (x_Qi G h0 s.heap.size (fun r9 h9 => h9 = h0 ∧ post r9)) args s 0 0 (x_A h0 s.heap.size)) (F0 m 31 ls [])))
    (hK56 : (∀  (H : Heap) (locs : List Loc) (ls : Array Slot) (nc ns : Nat), K56 → x_I G (x_A h0 s.heap.size) s.heap h0 H locs → nc + 0 ≤ 0 → ns + 0 ≤ 0 → lv_has ls 3 [] → W p l e (rX5_sizeAgainst) s m args below meth c H locs nc ns (MQ below (x_Qi G h0 s.heap.size (fun r9 h9 => h9 = h0 ∧ post r9)) args s 0 0 (x_A h0 s.heap.size)) (F0 m 56 ls []))) :
    ∀ (n : Nat) (x0 : Nat) (x1 : Nat) (x2 : Int32) (H : Heap) (locs : List Loc) (ls : Array Slot) (nc ns : Nat), wl_X5_sizeAgainst_14 h0 post K31 K56 n x0 x1 x2 → x_I G (x_A h0 s.heap.size) s.heap h0 H locs → nc + 0 ≤ 0 → ns + 0 ≤ 0 → lv_has ls 3 [(0, .ref x0), (1, .ref x1), (2, .int x2)] → W p l e (rX5_sizeAgainst) s m args below meth c H locs nc ns (MQ below (x_Qi G h0 s.heap.size (fun r9 h9 => h9 = h0 ∧ post r9)) args s 0 0 (x_A h0 s.heap.size)) (F0 m 14 ls []) := by
  obtain ⟨hx, hb, hr, hml, hown, hg, hlocks, hK⟩ := id C
  intro n
  induction n with
  | zero => intro x0 x1 x2 H locs ls nc ns hw; exact absurd hw id
  | succ n ih =>
    intro x0 x1 x2 H locs ls nc ns hw hI hkc hks hl
    refine lv_iload_n hx hb dX5_sizeAgainst_14 rfl (lv_at hl 2 rfl) ?_
    refine lv_if_lt (tgt := 56) hx hb dX5_sizeAgainst_15 (by decide) (fun hc15 => ?_) (fun hc15 => ?_)
    · have hw := hw.1 hc15
      exact hK56  _ _ _ _ _ hw hI (by omega) (by omega) (lv_sub hl [] rfl)
    · have hw := hw.2 hc15
      refine lv_aload_n hx hb dX5_sizeAgainst_18 rfl (lv_at hl 0 rfl) ?_
      refine lv_iload_n hx hb dX5_sizeAgainst_19 rfl (lv_at hl 2 rfl) ?_
      obtain ⟨fs_20, he_20, hw⟩ := hw
      refine x_ci (va_runV (As := [.int x2]) (rest := []) ⟨hx, hb, hml, hown, hg⟩ (m_X5_digit l G h0  x0 x2 _ hw H.size) (cwV 1 hg (x_gV km_X5_30 ki_X5_digit kz_X5_X5_digit kn_X5 kk_X5_digit) rfl rfl rfl (by decide +kernel) ⟨Nat.le_of_ble_eq_true rfl, Nat.le_of_ble_eq_true rfl⟩) ⟨x_blind, x_recv hI hK he_20 rfl rfl, x_pre hI hK⟩ rfl rfl hl.1 rfl (lv_room (Nat.le_of_ble_eq_true rfl)) dX5_sizeAgainst_20 ⟨show nc + 0 ≤ 0 by omega, show ns + 0 ≤ 0 by omega⟩) hI (fun r_20 h_20 H locs hw hI => ?_)
      obtain ⟨eh_20, hw⟩ := hw
      rw [eh_20] at hI
      refine lv_aload_n hx hb dX5_sizeAgainst_23 rfl (lv_at hl 1 rfl) ?_
      refine lv_iload_n hx hb dX5_sizeAgainst_24 rfl (lv_at hl 2 rfl) ?_
      obtain ⟨fs_25, he_25, hw⟩ := hw
      refine x_ci (va_runV (As := [.int x2]) (rest := [.int r_20]) ⟨hx, hb, hml, hown, hg⟩ (m_X5_digit l G h0  x1 x2 _ hw H.size) (cwV 1 hg (x_gV km_X5_30 ki_X5_digit kz_X5_X5_digit kn_X5 kk_X5_digit) rfl rfl rfl (by decide +kernel) ⟨Nat.le_of_ble_eq_true rfl, Nat.le_of_ble_eq_true rfl⟩) ⟨x_blind, x_recv hI hK he_25 rfl rfl, x_pre hI hK⟩ rfl rfl hl.1 rfl (lv_room (Nat.le_of_ble_eq_true rfl)) dX5_sizeAgainst_25 ⟨show nc + 0 + 0 ≤ 0 by omega, show ns + 0 + 0 ≤ 0 by omega⟩) hI (fun r_25 h_25 H locs hw hI => ?_)
      obtain ⟨eh_25, hw⟩ := hw
      rw [eh_25] at hI
      refine lv_icmp_eq (tgt := 50) hx hb dX5_sizeAgainst_28 (by decide) (fun hc28 => ?_) (fun hc28 => ?_)
      · have hw := hw.1 hc28
        obtain ⟨x2_50, ex2_50⟩ : ∃ y : Int32, y = x2 + (-1) := ⟨_, rfl⟩
        have hw := hw x2_50 ex2_50
        refine lv_iinc (v := x2_50) (lv' := [(2, .int x2_50), (0, .ref x0), (1, .ref x1)]) hx hb dX5_sizeAgainst_50 hl (k := 2) rfl (by rw [ex2_50]; rfl) (by decide) rfl (fun ls hl => ?_)
        refine lv_goto (tgt := 14) hx hb dX5_sizeAgainst_53 (by decide) ?_
        exact ih _ _ _ _ _ _ _ _ hw hI (by omega) (by omega) (lv_sub hl [1, 2, 0] rfl)
      · have hw := hw.2 hc28
        exact hK31 _ _ _ _ _ _ _ _ hw hI (by omega) (by omega) (lv_sub hl [0, 1, 2] rfl)
set_option maxHeartbeats 4000000 in
set_option maxRecDepth 100000 in
theorem mj_X5_sizeAgainst_49 (C : CX p s m args meth c G RX5 cX5_sizeAgainst 3 (some .int)) (h0 : xH) (post : Int32 → Prop) 
    
    (s0 : Int32) (H : Heap) (locs : List Loc) (ls : Array Slot) (nc ns : Nat) (hw : wj_X5_sizeAgainst_49 h0 post  s0) (hI : x_I G (x_A h0 s.heap.size) s.heap h0 H locs) (hkc : nc + 0 ≤ 0) (hks : ns + 0 ≤ 0) (hl : lv_has ls 3 []) : W p l e (rX5_sizeAgainst) s m args below meth c H locs nc ns (MQ below (x_Qi G h0 s.heap.size (fun r9 h9 => h9 = h0 ∧ post r9)) args s 0 0 (x_A h0 s.heap.size)) (F0 m 49 ls [.int s0]) := by
  obtain ⟨hx, hb, hr, hml, hown, hg, hlocks, hK⟩ := id C
  unfold wj_X5_sizeAgainst_49 at hw
  exact x_iret hx hb hr hlocks hI ⟨rfl, hw⟩ (by omega) (by omega) dX5_sizeAgainst_49
set_option maxHeartbeats 4000000 in
set_option maxRecDepth 100000 in
theorem m_X5_sizeAgainst (l : Launch) (G : xG) (h0 : xH)  (x0 : Nat) (x1 : Nat) (post : Int32 → Prop) (hw : wp_X5_sizeAgainst h0  x0 x1 post) (sz : Nat) : Met l yX5_sizeAgainst (wu yX5_sizeAgainst cX5_sizeAgainst 3 (some .int)) (rX5_sizeAgainst) (x_Pc G [.ref x0, .ref x1] h0 sz) (x_Qi G h0 sz (fun r9 h9 => h9 = h0 ∧ post r9)) 0 0 (x_A h0 sz) := by
  refine Met.ofW (cc := cX5_sizeAgainst) (maxL := 3) (ret := (some .int)) (by decide) rfl ?_
  intro p e s m args below meth c s₁ B hml hv
  obtain ⟨rfl, hsz, hR, hK⟩ := hv
  subst hsz
  have C : CX p s m _ meth c G RX5 cX5_sizeAgainst 3 (some .int) := ⟨B.exec, B.bytes, B.returns, hml, findClass_of_methodNamed B.named, x_hg (atoms_spec (ws := wu yX5_sizeAgainst cX5_sizeAgainst 3 (some .int)) B.pre), B.notSynchronized, hK⟩
  obtain ⟨hx, hb, hr, hml, hown, hg, hlocks, hK⟩ := id C
  have hI : x_I G (x_A h0 s.heap.size) s.heap h0 s.heap [] := x_I.start hR
  have hkc : 0 + 0 ≤ 0 := by omega
  have hks : 0 + 0 ≤ 0 := by omega
  have hl := lv_entry ([.ref x0, .ref x1]) (n := 3) (Nat.le_of_ble_eq_true rfl)
  rw [lg_entry_eq]
  generalize (lg_sl ([.ref x0, .ref x1]) ++ List.replicate (3 - (lg_sl ([.ref x0, .ref x1])).length) Slot.unset).toArray = ls at hl ⊢
  have hl : lv_has ls 3 [(0, .ref x0), (1, .ref x1)] := hl
  unfold wp_X5_sizeAgainst at hw
  refine lv_aload_n hx hb dX5_sizeAgainst_0 rfl (lv_at hl 0 rfl) ?_
  obtain ⟨fs_1, he_1, hw⟩ := hw
  obtain ⟨v_1, hv_1, hw⟩ := hw
  refine x_get (ci := 5) (C := RX5) (T := TX5) (N := 3) hx hb hg ku_X5 hown hK hI he_1 rfl 2 (by decide) (hg _ kf_X5_17) (fun _ h9 => h9) hv_1 dX5_sizeAgainst_1 ?_
  refine lv_aload_n hx hb dX5_sizeAgainst_4 rfl (lv_at hl 1 rfl) ?_
  obtain ⟨fs_5, he_5, hw⟩ := hw
  obtain ⟨v_5, hv_5, hw⟩ := hw
  refine x_get (ci := 5) (C := RX5) (T := TX5) (N := 3) hx hb hg ku_X5 hown hK hI he_5 rfl 2 (by decide) (hg _ kf_X5_17) (fun _ h9 => h9) hv_5 dX5_sizeAgainst_5 ?_
  refine va_mmax hx hb (by rw [hml]; exact hl.1.symm) hown (hg _ km_X5_34) (hg _ ks_J9_max_7cf53) (hg _ kn_J9) (hg _ kk_J9_max_7cf53) (Nat.le_of_ble_eq_true rfl) (Nat.le_of_ble_eq_true rfl) (show 0 ≤ 0 by omega) (show 0 ≤ 0 by omega) dX5_sizeAgainst_8 ?_
  refine lv_iconst (v := 1) hx hb dX5_sizeAgainst_11 (by decide) ?_
  refine lv_isub hx hb dX5_sizeAgainst_12 ?_
  refine lv_topi (fun x2_13 ex2_13 => ?_)
  have hw := hw x2_13 ex2_13
  refine lv_istore_n (lv' := [(2, .int x2_13), (0, .ref x0), (1, .ref x1)]) hx hb dX5_sizeAgainst_13 rfl hl (by decide) rfl (fun ls hl => ?_)
  obtain ⟨n14, hw⟩ := hw
  refine ml_X5_sizeAgainst_14 C h0 post _ _ ?_ ?_ n14 _ _ _ _ _ _ _ _ hw hI (by omega) (by omega) (lv_sub hl [1, 2, 0] rfl)
  · intro x0 x1 x2 H locs ls nc ns hw hI hkc hks hl
    refine lv_aload_n hx hb dX5_sizeAgainst_31 rfl (lv_at hl 0 rfl) ?_
    refine lv_iload_n hx hb dX5_sizeAgainst_32 rfl (lv_at hl 2 rfl) ?_
    obtain ⟨fs_33, he_33, hw⟩ := hw
    refine x_ci (va_runV (As := [.int x2]) (rest := []) ⟨hx, hb, hml, hown, hg⟩ (m_X5_digit l G h0  x0 x2 _ hw H.size) (cwV 1 hg (x_gV km_X5_30 ki_X5_digit kz_X5_X5_digit kn_X5 kk_X5_digit) rfl rfl rfl (by decide +kernel) ⟨Nat.le_of_ble_eq_true rfl, Nat.le_of_ble_eq_true rfl⟩) ⟨x_blind, x_recv hI hK he_33 rfl rfl, x_pre hI hK⟩ rfl rfl hl.1 rfl (lv_room (Nat.le_of_ble_eq_true rfl)) dX5_sizeAgainst_33 ⟨show nc + 0 ≤ 0 by omega, show ns + 0 ≤ 0 by omega⟩) hI (fun r_33 h_33 H locs hw hI => ?_)
    obtain ⟨eh_33, hw⟩ := hw
    rw [eh_33] at hI
    refine lv_aload_n hx hb dX5_sizeAgainst_36 rfl (lv_at hl 1 rfl) ?_
    refine lv_iload_n hx hb dX5_sizeAgainst_37 rfl (lv_at hl 2 rfl) ?_
    obtain ⟨fs_38, he_38, hw⟩ := hw
    refine x_ci (va_runV (As := [.int x2]) (rest := [.int r_33]) ⟨hx, hb, hml, hown, hg⟩ (m_X5_digit l G h0  x1 x2 _ hw H.size) (cwV 1 hg (x_gV km_X5_30 ki_X5_digit kz_X5_X5_digit kn_X5 kk_X5_digit) rfl rfl rfl (by decide +kernel) ⟨Nat.le_of_ble_eq_true rfl, Nat.le_of_ble_eq_true rfl⟩) ⟨x_blind, x_recv hI hK he_38 rfl rfl, x_pre hI hK⟩ rfl rfl hl.1 rfl (lv_room (Nat.le_of_ble_eq_true rfl)) dX5_sizeAgainst_38 ⟨show nc + 0 + 0 ≤ 0 by omega, show ns + 0 + 0 ≤ 0 by omega⟩) hI (fun r_38 h_38 H locs hw hI => ?_)
    obtain ⟨eh_38, hw⟩ := hw
    rw [eh_38] at hI
    refine lv_icmp_ge (tgt := 48) hx hb dX5_sizeAgainst_41 (by decide) (fun hc41 => ?_) (fun hc41 => ?_)
    · have hw := hw.1 hc41
      refine lv_iconst (v := 1) hx hb dX5_sizeAgainst_48 (by decide) ?_
      exact mj_X5_sizeAgainst_49 C h0 post  _ _ _ _ _ _ hw hI (by omega) (by omega) (lv_sub hl [] rfl)
    · have hw := hw.2 hc41
      refine lv_iconst (v := (-1)) hx hb dX5_sizeAgainst_44 (by decide) ?_
      refine lv_goto (tgt := 49) hx hb dX5_sizeAgainst_45 (by decide) ?_
      exact mj_X5_sizeAgainst_49 C h0 post  _ _ _ _ _ _ hw hI (by omega) (by omega) (lv_sub hl [] rfl)
  · intro  H locs ls nc ns hw hI hkc hks hl
    refine lv_iconst (v := 0) hx hb dX5_sizeAgainst_56 (by decide) ?_
    exact x_iret hx hb hr hlocks hI ⟨rfl, hw⟩ (by omega) (by omega) dX5_sizeAgainst_57
-- ===== ExactFilter$Whole.negative
abbrev rX5_negative (mc ms : Nat) : Room := { frames := 2, cells := mc, slots := ms, locals := 43 }
def wp_X5_negative (h0 : xH) (mc ms : Nat) (x0 : Nat) (post : Nat → xH → Prop) : Prop := 1 ≤ mc ∧ 3 ≤ ms ∧ ∀ q_0 : Nat, x_fresh h0 q_0 → ∀ h_0 : xH, h_0 = x_up h0 q_0 (.inr (5, [.int 0, .null, .int 0])) → ∃ fs_5 : List Value, h_0 x0 = some (.inr (5, fs_5)) ∧ ∃ v_5 : Int32, fs_5[0]? = some (.int v_5) ∧ ∃ v_10 : Nat, fs_5[1]? = some (.ref v_10) ∧ wp_X5_init h_0  q_0 (-v_5) v_10 (fun (h_13 : xH) => post q_0 h_13)
set_option maxHeartbeats 4000000 in
set_option maxRecDepth 100000 in
theorem m_X5_negative (l : Launch) (G : xG) (h0 : xH) (mc ms : Nat) (x0 : Nat) (post : Nat → xH → Prop) (hw : wp_X5_negative h0 mc ms x0 post) (sz : Nat) : Met l yX5_negative (wu yX5_negative cX5_negative 1 (some (.object "ExactFilter$Whole"))) (rX5_negative mc ms) (x_Pc G [.ref x0] h0 sz) (x_Qr G h0 sz post) mc ms (x_A h0 sz) := by
  refine Met.ofW (cc := cX5_negative) (maxL := 1) (ret := (some (.object "ExactFilter$Whole"))) (by decide) rfl ?_
  intro p e s m args below meth c s₁ B hml hv
  obtain ⟨rfl, hsz, hR, hK⟩ := hv
  subst hsz
  have C : CX p s m _ meth c G RX5 cX5_negative 1 (some (.object "ExactFilter$Whole")) := ⟨B.exec, B.bytes, B.returns, hml, findClass_of_methodNamed B.named, x_hg (atoms_spec (ws := wu yX5_negative cX5_negative 1 (some (.object "ExactFilter$Whole"))) B.pre), B.notSynchronized, hK⟩
  obtain ⟨hx, hb, hr, hml, hown, hg, hlocks, hK⟩ := id C
  have hI : x_I G (x_A h0 s.heap.size) s.heap h0 s.heap [] := x_I.start hR
  have hkc : 0 + mc ≤ mc := by omega
  have hks : 0 + ms ≤ ms := by omega
  have hl := lv_entry ([.ref x0]) (n := 1) (Nat.le_of_ble_eq_true rfl)
  rw [lg_entry_eq]
  generalize (lg_sl ([.ref x0]) ++ List.replicate (1 - (lg_sl ([.ref x0])).length) Slot.unset).toArray = ls at hl ⊢
  have hl : lv_has ls 1 [(0, .ref x0)] := hl
  unfold wp_X5_negative at hw
  obtain ⟨hkc1, hks1, hw⟩ := hw
  refine x_new (ci := 5) (fs := [.int 0, .null, .int 0]) (C := RX5) (T := TX5) (N := 3) hx hb hg ku_X5 tyX5 tyX5_ok hown (hg _ kl_X5_8) (hg _ kt_X5) (hg _ kn_X5) hK hI rfl (by decide +kernel) (show 0 + 1 ≤ mc by omega) (show 0 + 3 ≤ ms by omega) dX5_negative_0 (fun q_0 H hfr0 hI => ?_)
  have hw := hw q_0 hfr0
  obtain ⟨h_0, eh_0⟩ : ∃ z : xH, z = x_up h0 q_0 (.inr (5, [.int 0, .null, .int 0])) := ⟨_, rfl⟩
  rw [← eh_0] at hI
  have hw := hw h_0 eh_0
  have heh_0 : h_0 q_0 = some (.inr (5, [.int 0, .null, .int 0])) := by rw [eh_0]; exact x_up_s
  refine lv_dup hx hb dX5_negative_3 rfl ?_
  refine lv_aload_n hx hb dX5_negative_4 rfl (lv_at hl 0 rfl) ?_
  obtain ⟨fs_5, he_5, hw⟩ := hw
  obtain ⟨v_5, hv_5, hw⟩ := hw
  refine x_get (ci := 5) (C := RX5) (T := TX5) (N := 3) hx hb hg ku_X5 hown hK hI he_5 rfl 0 (by decide) (hg _ kf_X5_7) (fun _ h9 => h9) hv_5 dX5_negative_5 ?_
  refine lv_ineg hx hb dX5_negative_8 ?_
  refine lv_aload_n hx hb dX5_negative_9 rfl (lv_at hl 0 rfl) ?_
  obtain ⟨v_10, hv_10, hw⟩ := hw
  refine x_get (ci := 5) (C := RX5) (T := TX5) (N := 3) hx hb hg ku_X5 hown hK hI he_5 rfl 1 (by decide) (hg _ kf_X5_13) (fun _ h9 => h9) hv_10 dX5_negative_10 ?_
  refine x_cv (va_runI (As := [.int (-v_5), .ref v_10]) (rest := [.ref q_0]) ⟨hx, hb, hml, hown, hg⟩ (m_X5_init l G h_0  q_0 (-v_5) v_10 _ hw H.size) (cwI 2 hg (x_gI kk_X5_init) rfl rfl rfl (hg _ kn_X5) (hg _ km_X5_21) (hg _ ki_X5_init) rfl (by decide +kernel) ⟨Nat.le_of_ble_eq_true rfl, Nat.le_of_ble_eq_true rfl⟩) ⟨x_blind, x_pre hI hK⟩ rfl rfl hl.1 rfl (lv_room (Nat.le_of_ble_eq_true rfl)) dX5_negative_13 ⟨show 0 + 1 + 0 ≤ mc by omega, show 0 + 3 + 0 ≤ ms by omega⟩) hI (fun h_13 H locs hw hI => ?_)
  exact x_aret hx hb hr (by first | exact Or.inl ⟨_, rfl⟩ | exact Or.inr ⟨_, rfl⟩) hlocks hI hw (by omega) (by omega) dX5_negative_16
-- ===== ExactFilter$Whole.sumOfDigits
abbrev rX5_sumOfDigits (mc ms : Nat) : Room := { frames := 1, cells := mc, slots := ms, locals := 21 }
def wl_X5_sumOfDigits_21  (post : Nat → xH → Prop) (K66 : xH → Nat → Nat → Nat → Prop) : Nat → xH → Nat → Nat → Nat → Nat → Nat → Int32 → Int32 → Prop
  | 0, _, _, _, _, _, _, _, _ => False
  | n + 1, h, kc, ks, x0, x1, x2, x3, x4 => ∃ (n_24 : Nat) (f_24 : Nat → Int32), h x2 = some (.inl (0, n_24, .inl f_24)) ∧ ((nI n_24) ≤ x4 → K66 h kc ks x2) ∧ (¬ (nI n_24) ≤ x4 → ∃ fs_31 : List Value, h x0 = some (.inr (5, fs_31)) ∧ wp_X5_digit h  x0 x4 (fun (r_31 : Int32) => ∃ fs_37 : List Value, h x1 = some (.inr (5, fs_37)) ∧ wp_X5_digit h  x1 x4 (fun (r_37 : Int32) => ∀ (x5_43 : Int32), x5_43 = ((r_31 + r_37) + x3) → vp_in x4 n_24 ∧ ∀ h_53 : xH, h_53 = x_up h x2 (.inl (0, n_24, .inl (upd f_24 (x4 : Int32).toNatClampNeg (x5_43 &&& 65535)))) → ∀ (x3_59 : Int32), x3_59 = (x5_43 >>> ((16 : Int32) &&& 31)) → ∀ (x4_60 : Int32), x4_60 = x4 + 1 → wl_X5_sumOfDigits_21  post K66 n h_53 kc ks x0 x1 x2 x3_59 x4_60)))
def wp_X5_sumOfDigits (h0 : xH) (mc ms : Nat) (x0 : Nat) (x1 : Nat) (post : Nat → xH → Prop) : Prop := ∃ fs_1 : List Value, h0 x0 = some (.inr (5, fs_1)) ∧ ∃ v_1 : Int32, fs_1[2]? = some (.int v_1) ∧ ∃ fs_5 : List Value, h0 x1 = some (.inr (5, fs_5)) ∧ ∃ v_5 : Int32, fs_5[2]? = some (.int v_5) ∧ ¬ (((if v_1 < v_5 then v_5 else v_1) + 1) : Int32) < 0 ∧ ∀ z_13 : Nat, (((if v_1 < v_5 then v_5 else v_1) + 1) : Int32).toNatClampNeg = z_13 → z_13 ≤ 60000000 ∧ 1 ≤ mc ∧ z_13 ≤ ms ∧ ∀ q_13 : Nat, x_fresh h0 q_13 → ∀ h_13 : xH, h_13 = x_up h0 q_13 (.inl (0, z_13, .inl (fun _ => 0))) → ∃ n21 : Nat, wl_X5_sumOfDigits_21  post (fun (h : xH) (kc : Nat) (ks : Nat) (x2 : Nat) => post x2 h) n21 h_13 (mc - 1) (ms - z_13) x0 x1 q_13 0 0
set_option maxHeartbeats 4000000 in
set_option maxRecDepth 100000 in
theorem ml_X5_sumOfDigits_21 (C : CX p s m args meth c G RX5 cX5_sumOfDigits 6 (some (.array .int))) (h0 : xH) (mc ms : Nat) (post : Nat → xH → Prop) (K66 : xH → Nat → Nat → Nat → Prop)
    (hK66 : (∀ (h : xH) (kc : Nat) (ks : Nat) (x2 : Nat) (H : Heap) (locs : List Loc) (ls : Array Slot) (nc ns : Nat), K66 h kc ks x2 → x_I G (x_A h0 s.heap.size) s.heap h H locs → nc + kc ≤ mc → ns + ks ≤ ms → lv_has ls 6 [(2, .ref x2)] → W p l e (rX5_sumOfDigits mc ms) s m args below meth c H locs nc ns (MQ below (x_Qr G h0 s.heap.size post) args s mc ms (x_A h0 s.heap.size)) (F0 m 66 ls []))) :
    ∀ (n : Nat) (h : xH) (kc : Nat) (ks : Nat) (x0 : Nat) (x1 : Nat) (x2 : Nat) (x3 : Int32) (x4 : Int32) (H : Heap) (locs : List Loc) (ls : Array Slot) (nc ns : Nat), wl_X5_sumOfDigits_21  post K66 n h kc ks x0 x1 x2 x3 x4 → x_I G (x_A h0 s.heap.size) s.heap h H locs → nc + kc ≤ mc → ns + ks ≤ ms → lv_has ls 6 [(0, .ref x0), (1, .ref x1), (2, .ref x2), (3, .int x3), (4, .int x4)] → W p l e (rX5_sumOfDigits mc ms) s m args below meth c H locs nc ns (MQ below (x_Qr G h0 s.heap.size post) args s mc ms (x_A h0 s.heap.size)) (F0 m 21 ls []) := by
  obtain ⟨hx, hb, hr, hml, hown, hg, hlocks, hK⟩ := id C
  intro n
  induction n with
  | zero => intro h kc ks x0 x1 x2 x3 x4 H locs ls nc ns hw; exact absurd hw id
  | succ n ih =>
    intro h kc ks x0 x1 x2 x3 x4 H locs ls nc ns hw hI hkc hks hl
    refine lv_iload hx hb dX5_sumOfDigits_21 (lv_at hl 4 rfl) ?_
    refine lv_aload_n hx hb dX5_sumOfDigits_23 rfl (lv_at hl 2 rfl) ?_
    obtain ⟨n_24, f_24, he_24, hw⟩ := hw
    refine x_alen hx hb hK hI he_24 rfl dX5_sumOfDigits_24 ?_
    refine W.eq (g2 := F0 m 25 ls (.int (nI n_24) :: .int x4 :: [])) rfl ?_
    refine lv_icmp_ge (tgt := 66) hx hb dX5_sumOfDigits_25 (by decide) (fun hc25 => ?_) (fun hc25 => ?_)
    · have hw := hw.1 hc25
      exact hK66 _ _ _ _ _ _ _ _ _ hw hI (by omega) (by omega) (lv_sub hl [2] rfl)
    · have hw := hw.2 hc25
      refine lv_aload_n hx hb dX5_sumOfDigits_28 rfl (lv_at hl 0 rfl) ?_
      refine lv_iload hx hb dX5_sumOfDigits_29 (lv_at hl 4 rfl) ?_
      obtain ⟨fs_31, he_31, hw⟩ := hw
      refine x_ci (va_runV (As := [.int x4]) (rest := []) ⟨hx, hb, hml, hown, hg⟩ (m_X5_digit l G h  x0 x4 _ hw H.size) (cwV 1 hg (x_gV km_X5_30 ki_X5_digit kz_X5_X5_digit kn_X5 kk_X5_digit) rfl rfl rfl (by decide +kernel) ⟨Nat.le_of_ble_eq_true rfl, Nat.le_of_ble_eq_true rfl⟩) ⟨x_blind, x_recv hI hK he_31 rfl rfl, x_pre hI hK⟩ rfl rfl hl.1 rfl (lv_room (Nat.le_of_ble_eq_true rfl)) dX5_sumOfDigits_31 ⟨show nc + 0 ≤ mc by omega, show ns + 0 ≤ ms by omega⟩) hI (fun r_31 h_31 H locs hw hI => ?_)
      obtain ⟨eh_31, hw⟩ := hw
      rw [eh_31] at hI
      refine lv_aload_n hx hb dX5_sumOfDigits_34 rfl (lv_at hl 1 rfl) ?_
      refine lv_iload hx hb dX5_sumOfDigits_35 (lv_at hl 4 rfl) ?_
      obtain ⟨fs_37, he_37, hw⟩ := hw
      refine x_ci (va_runV (As := [.int x4]) (rest := [.int r_31]) ⟨hx, hb, hml, hown, hg⟩ (m_X5_digit l G h  x1 x4 _ hw H.size) (cwV 1 hg (x_gV km_X5_30 ki_X5_digit kz_X5_X5_digit kn_X5 kk_X5_digit) rfl rfl rfl (by decide +kernel) ⟨Nat.le_of_ble_eq_true rfl, Nat.le_of_ble_eq_true rfl⟩) ⟨x_blind, x_recv hI hK he_37 rfl rfl, x_pre hI hK⟩ rfl rfl hl.1 rfl (lv_room (Nat.le_of_ble_eq_true rfl)) dX5_sumOfDigits_37 ⟨show nc + 0 + 0 ≤ mc by omega, show ns + 0 + 0 ≤ ms by omega⟩) hI (fun r_37 h_37 H locs hw hI => ?_)
      obtain ⟨eh_37, hw⟩ := hw
      rw [eh_37] at hI
      refine lv_iadd hx hb dX5_sumOfDigits_40 ?_
      refine lv_iload_n hx hb dX5_sumOfDigits_41 rfl (lv_at hl 3 rfl) ?_
      refine lv_iadd hx hb dX5_sumOfDigits_42 ?_
      refine lv_topi (fun x5_43 ex5_43 => ?_)
      have hw := hw x5_43 ex5_43
      refine lv_istore (lv' := [(5, .int x5_43), (0, .ref x0), (1, .ref x1), (2, .ref x2), (3, .int x3), (4, .int x4)]) hx hb dX5_sumOfDigits_43 hl (by decide) rfl (fun ls hl => ?_)
      refine lv_aload_n hx hb dX5_sumOfDigits_45 rfl (lv_at hl 3 rfl) ?_
      refine lv_iload hx hb dX5_sumOfDigits_46 (lv_at hl 5 rfl) ?_
      refine lv_iload hx hb dX5_sumOfDigits_48 (lv_at hl 0 rfl) ?_
      refine lv_ldc (v := 65535) hx hb hown (hg _ kc_X5_20) dX5_sumOfDigits_50 ?_
      refine lv_iand hx hb dX5_sumOfDigits_52 ?_
      obtain ⟨hi53, hw⟩ := hw
      refine x_iast hx hb hK hI he_24 hi53 dX5_sumOfDigits_53 (fun H locs hI => ?_)
      obtain ⟨h_53, eh_53⟩ : ∃ z : xH, z = x_up h x2 (.inl (0, n_24, .inl (upd f_24 (x4 : Int32).toNatClampNeg (x5_43 &&& 65535)))) := ⟨_, rfl⟩
      rw [← eh_53] at hI
      have hw := hw h_53 eh_53
      have heh_53 : h_53 x2 = some (.inl (0, n_24, .inl (upd f_24 (x4 : Int32).toNatClampNeg (x5_43 &&& 65535)))) := by rw [eh_53]; exact x_up_s
      refine lv_iload hx hb dX5_sumOfDigits_54 (lv_at hl 0 rfl) ?_
      refine lv_bipush (v := 16) hx hb dX5_sumOfDigits_56 (by decide) ?_
      refine lv_ishr hx hb dX5_sumOfDigits_58 ?_
      refine lv_topi (fun x3_59 ex3_59 => ?_)
      have hw := hw x3_59 ex3_59
      refine lv_istore_n (lv' := [(3, .int x3_59), (5, .int x5_43), (0, .ref x0), (1, .ref x1), (2, .ref x2), (4, .int x4)]) hx hb dX5_sumOfDigits_59 rfl hl (by decide) rfl (fun ls hl => ?_)
      obtain ⟨x4_60, ex4_60⟩ : ∃ y : Int32, y = x4 + 1 := ⟨_, rfl⟩
      have hw := hw x4_60 ex4_60
      refine lv_iinc (v := x4_60) (lv' := [(4, .int x4_60), (3, .int x3_59), (5, .int x5_43), (0, .ref x0), (1, .ref x1), (2, .ref x2)]) hx hb dX5_sumOfDigits_60 hl (k := 5) rfl (by rw [ex4_60]; rfl) (by decide) rfl (fun ls hl => ?_)
      refine lv_goto (tgt := 21) hx hb dX5_sumOfDigits_63 (by decide) ?_
      exact ih _ _ _ _ _ _ _ _ _ _ _ _ _ hw hI (by omega) (by omega) (lv_sub hl [3, 4, 5, 1, 0] rfl)
set_option maxHeartbeats 4000000 in
set_option maxRecDepth 100000 in
theorem m_X5_sumOfDigits (l : Launch) (G : xG) (h0 : xH) (mc ms : Nat) (x0 : Nat) (x1 : Nat) (post : Nat → xH → Prop) (hw : wp_X5_sumOfDigits h0 mc ms x0 x1 post) (sz : Nat) : Met l yX5_sumOfDigits (wu yX5_sumOfDigits cX5_sumOfDigits 6 (some (.array .int))) (rX5_sumOfDigits mc ms) (x_Pc G [.ref x0, .ref x1] h0 sz) (x_Qr G h0 sz post) mc ms (x_A h0 sz) := by
  refine Met.ofW (cc := cX5_sumOfDigits) (maxL := 6) (ret := (some (.array .int))) (by decide) rfl ?_
  intro p e s m args below meth c s₁ B hml hv
  obtain ⟨rfl, hsz, hR, hK⟩ := hv
  subst hsz
  have C : CX p s m _ meth c G RX5 cX5_sumOfDigits 6 (some (.array .int)) := ⟨B.exec, B.bytes, B.returns, hml, findClass_of_methodNamed B.named, x_hg (atoms_spec (ws := wu yX5_sumOfDigits cX5_sumOfDigits 6 (some (.array .int))) B.pre), B.notSynchronized, hK⟩
  obtain ⟨hx, hb, hr, hml, hown, hg, hlocks, hK⟩ := id C
  have hI : x_I G (x_A h0 s.heap.size) s.heap h0 s.heap [] := x_I.start hR
  have hkc : 0 + mc ≤ mc := by omega
  have hks : 0 + ms ≤ ms := by omega
  have hl := lv_entry ([.ref x0, .ref x1]) (n := 6) (Nat.le_of_ble_eq_true rfl)
  rw [lg_entry_eq]
  generalize (lg_sl ([.ref x0, .ref x1]) ++ List.replicate (6 - (lg_sl ([.ref x0, .ref x1])).length) Slot.unset).toArray = ls at hl ⊢
  have hl : lv_has ls 6 [(0, .ref x0), (1, .ref x1)] := hl
  unfold wp_X5_sumOfDigits at hw
  refine lv_aload_n hx hb dX5_sumOfDigits_0 rfl (lv_at hl 0 rfl) ?_
  obtain ⟨fs_1, he_1, hw⟩ := hw
  obtain ⟨v_1, hv_1, hw⟩ := hw
  refine x_get (ci := 5) (C := RX5) (T := TX5) (N := 3) hx hb hg ku_X5 hown hK hI he_1 rfl 2 (by decide) (hg _ kf_X5_17) (fun _ h9 => h9) hv_1 dX5_sumOfDigits_1 ?_
  refine lv_aload_n hx hb dX5_sumOfDigits_4 rfl (lv_at hl 1 rfl) ?_
  obtain ⟨fs_5, he_5, hw⟩ := hw
  obtain ⟨v_5, hv_5, hw⟩ := hw
  refine x_get (ci := 5) (C := RX5) (T := TX5) (N := 3) hx hb hg ku_X5 hown hK hI he_5 rfl 2 (by decide) (hg _ kf_X5_17) (fun _ h9 => h9) hv_5 dX5_sumOfDigits_5 ?_
  refine va_mmax hx hb (by rw [hml]; exact hl.1.symm) hown (hg _ km_X5_34) (hg _ ks_J9_max_7cf53) (hg _ kn_J9) (hg _ kk_J9_max_7cf53) (Nat.le_of_ble_eq_true rfl) (Nat.le_of_ble_eq_true rfl) (show 0 ≤ mc by omega) (show 0 ≤ ms by omega) dX5_sumOfDigits_8 ?_
  refine lv_iconst (v := 1) hx hb dX5_sumOfDigits_11 (by decide) ?_
  refine lv_iadd hx hb dX5_sumOfDigits_12 ?_
  obtain ⟨hneg13, hw⟩ := hw
  obtain ⟨z_13, hz13⟩ : ∃ z : Nat, (((if v_1 < v_5 then v_5 else v_1) + 1) : Int32).toNatClampNeg = z := ⟨_, rfl⟩
  obtain ⟨hz213, hkc1, hks1, hw⟩ := hw z_13 hz13
  refine x_newi hx hb (hg _ ka_int) hK hI hneg13 hz13 (by omega) (show 0 + 1 ≤ mc by omega) (show 0 + z_13 ≤ ms by omega) dX5_sumOfDigits_13 (fun q_13 H hfr13 hI => ?_)
  have hw := hw q_13 hfr13
  obtain ⟨h_13, eh_13⟩ : ∃ z : xH, z = x_up h0 q_13 (.inl (0, z_13, .inl (fun _ => 0))) := ⟨_, rfl⟩
  rw [← eh_13] at hI
  have hw := hw h_13 eh_13
  have heh_13 : h_13 q_13 = some (.inl (0, z_13, .inl (fun _ => 0))) := by rw [eh_13]; exact x_up_s
  refine lv_astore_n (lv' := [(2, .ref q_13), (0, .ref x0), (1, .ref x1)]) hx hb dX5_sumOfDigits_15 rfl hl (by decide) rfl (fun ls hl => ?_)
  refine lv_iconst (v := 0) hx hb dX5_sumOfDigits_16 (by decide) ?_
  refine lv_istore_n (lv' := [(3, .int 0), (2, .ref q_13), (0, .ref x0), (1, .ref x1)]) hx hb dX5_sumOfDigits_17 rfl hl (by decide) rfl (fun ls hl => ?_)
  refine lv_iconst (v := 0) hx hb dX5_sumOfDigits_18 (by decide) ?_
  refine lv_istore (lv' := [(4, .int 0), (3, .int 0), (2, .ref q_13), (0, .ref x0), (1, .ref x1)]) hx hb dX5_sumOfDigits_19 hl (by decide) rfl (fun ls hl => ?_)
  obtain ⟨n21, hw⟩ := hw
  refine ml_X5_sumOfDigits_21 C h0 mc ms post _ ?_ n21 _ _ _ _ _ _ _ _ _ _ _ _ _ hw hI (by omega) (by omega) (lv_sub hl [3, 4, 2, 1, 0] rfl)
  · intro h kc ks x2 H locs ls nc ns hw hI hkc hks hl
    refine lv_aload_n hx hb dX5_sumOfDigits_66 rfl (lv_at hl 0 rfl) ?_
    exact x_aret hx hb hr (by first | exact Or.inl ⟨_, rfl⟩ | exact Or.inr ⟨_, rfl⟩) hlocks hI hw (by omega) (by omega) dX5_sumOfDigits_67
-- ===== ExactFilter$Whole.differenceOfDigits
abbrev rX5_differenceOfDigits (mc ms : Nat) : Room := { frames := 1, cells := mc, slots := ms, locals := 21 }
def wl_X5_differenceOfDigits_12  (post : Nat → xH → Prop) (K59 : xH → Nat → Nat → Nat → Prop) : Nat → xH → Nat → Nat → Nat → Nat → Nat → Int32 → Int32 → Prop
  | 0, _, _, _, _, _, _, _, _ => False
  | n + 1, h, kc, ks, x0, x1, x2, x3, x4 => ∃ fs_15 : List Value, h x0 = some (.inr (5, fs_15)) ∧ ∃ v_15 : Int32, fs_15[2]? = some (.int v_15) ∧ (v_15 ≤ x4 → K59 h kc ks x2) ∧ (¬ v_15 ≤ x4 → wp_X5_digit h  x0 x4 (fun (r_24 : Int32) => ∃ fs_30 : List Value, h x1 = some (.inr (5, fs_30)) ∧ wp_X5_digit h  x1 x4 (fun (r_30 : Int32) => ∀ (x5_36 : Int32), x5_36 = ((r_24 - r_30) + x3) → ∃ (n_46 : Nat) (f_46 : Nat → Int32), h x2 = some (.inl (0, n_46, .inl f_46)) ∧ vp_in x4 n_46 ∧ ∀ h_46 : xH, h_46 = x_up h x2 (.inl (0, n_46, .inl (upd f_46 (x4 : Int32).toNatClampNeg (x5_36 &&& 65535)))) → ∀ (x3_52 : Int32), x3_52 = (x5_36 >>> ((16 : Int32) &&& 31)) → ∀ (x4_53 : Int32), x4_53 = x4 + 1 → wl_X5_differenceOfDigits_12  post K59 n h_46 kc ks x0 x1 x2 x3_52 x4_53)))
def wp_X5_differenceOfDigits (h0 : xH) (mc ms : Nat) (x0 : Nat) (x1 : Nat) (post : Nat → xH → Prop) : Prop := ∃ fs_1 : List Value, h0 x0 = some (.inr (5, fs_1)) ∧ ∃ v_1 : Int32, fs_1[2]? = some (.int v_1) ∧ ¬ (v_1 : Int32) < 0 ∧ ∀ z_4 : Nat, (v_1 : Int32).toNatClampNeg = z_4 → z_4 ≤ 60000000 ∧ 1 ≤ mc ∧ z_4 ≤ ms ∧ ∀ q_4 : Nat, x_fresh h0 q_4 → ∀ h_4 : xH, h_4 = x_up h0 q_4 (.inl (0, z_4, .inl (fun _ => 0))) → ∃ n12 : Nat, wl_X5_differenceOfDigits_12  post (fun (h : xH) (kc : Nat) (ks : Nat) (x2 : Nat) => post x2 h) n12 h_4 (mc - 1) (ms - z_4) x0 x1 q_4 0 0
set_option maxHeartbeats 4000000 in
set_option maxRecDepth 100000 in
theorem ml_X5_differenceOfDigits_12 (C : CX p s m args meth c G RX5 cX5_differenceOfDigits 6 (some (.array .int))) (h0 : xH) (mc ms : Nat) (post : Nat → xH → Prop) (K59 : xH → Nat → Nat → Nat → Prop)
    (hK59 : (∀ (h : xH) (kc : Nat) (ks : Nat) (x2 : Nat) (H : Heap) (locs : List Loc) (ls : Array Slot) (nc ns : Nat), K59 h kc ks x2 → x_I G (x_A h0 s.heap.size) s.heap h H locs → nc + kc ≤ mc → ns + ks ≤ ms → lv_has ls 6 [(2, .ref x2)] → W p l e (rX5_differenceOfDigits mc ms) s m args below meth c H locs nc ns (MQ below (x_Qr G h0 s.heap.size post) args s mc ms (x_A h0 s.heap.size)) (F0 m 59 ls []))) :
    ∀ (n : Nat) (h : xH) (kc : Nat) (ks : Nat) (x0 : Nat) (x1 : Nat) (x2 : Nat) (x3 : Int32) (x4 : Int32) (H : Heap) (locs : List Loc) (ls : Array Slot) (nc ns : Nat), wl_X5_differenceOfDigits_12  post K59 n h kc ks x0 x1 x2 x3 x4 → x_I G (x_A h0 s.heap.size) s.heap h H locs → nc + kc ≤ mc → ns + ks ≤ ms → lv_has ls 6 [(0, .ref x0), (1, .ref x1), (2, .ref x2), (3, .int x3), (4, .int x4)] → W p l e (rX5_differenceOfDigits mc ms) s m args below meth c H locs nc ns (MQ below (x_Qr G h0 s.heap.size post) args s mc ms (x_A h0 s.heap.size)) (F0 m 12 ls []) := by
  obtain ⟨hx, hb, hr, hml, hown, hg, hlocks, hK⟩ := id C
  intro n
  induction n with
  | zero => intro h kc ks x0 x1 x2 x3 x4 H locs ls nc ns hw; exact absurd hw id
  | succ n ih =>
    intro h kc ks x0 x1 x2 x3 x4 H locs ls nc ns hw hI hkc hks hl
    refine lv_iload hx hb dX5_differenceOfDigits_12 (lv_at hl 4 rfl) ?_
    refine lv_aload_n hx hb dX5_differenceOfDigits_14 rfl (lv_at hl 0 rfl) ?_
    obtain ⟨fs_15, he_15, hw⟩ := hw
    obtain ⟨v_15, hv_15, hw⟩ := hw
    refine x_get (ci := 5) (C := RX5) (T := TX5) (N := 3) hx hb hg ku_X5 hown hK hI he_15 rfl 2 (by decide) (hg _ kf_X5_17) (fun _ h9 => h9) hv_15 dX5_differenceOfDigits_15 ?_
    refine lv_icmp_ge (tgt := 59) hx hb dX5_differenceOfDigits_18 (by decide) (fun hc18 => ?_) (fun hc18 => ?_)
    · have hw := hw.1 hc18
      exact hK59 _ _ _ _ _ _ _ _ _ hw hI (by omega) (by omega) (lv_sub hl [2] rfl)
    · have hw := hw.2 hc18
      refine lv_aload_n hx hb dX5_differenceOfDigits_21 rfl (lv_at hl 0 rfl) ?_
      refine lv_iload hx hb dX5_differenceOfDigits_22 (lv_at hl 4 rfl) ?_
      refine x_ci (va_runV (As := [.int x4]) (rest := []) ⟨hx, hb, hml, hown, hg⟩ (m_X5_digit l G h  x0 x4 _ hw H.size) (cwV 1 hg (x_gV km_X5_30 ki_X5_digit kz_X5_X5_digit kn_X5 kk_X5_digit) rfl rfl rfl (by decide +kernel) ⟨Nat.le_of_ble_eq_true rfl, Nat.le_of_ble_eq_true rfl⟩) ⟨x_blind, x_recv hI hK he_15 rfl rfl, x_pre hI hK⟩ rfl rfl hl.1 rfl (lv_room (Nat.le_of_ble_eq_true rfl)) dX5_differenceOfDigits_24 ⟨show nc + 0 ≤ mc by omega, show ns + 0 ≤ ms by omega⟩) hI (fun r_24 h_24 H locs hw hI => ?_)
      obtain ⟨eh_24, hw⟩ := hw
      rw [eh_24] at hI
      refine lv_aload_n hx hb dX5_differenceOfDigits_27 rfl (lv_at hl 1 rfl) ?_
      refine lv_iload hx hb dX5_differenceOfDigits_28 (lv_at hl 4 rfl) ?_
      obtain ⟨fs_30, he_30, hw⟩ := hw
      refine x_ci (va_runV (As := [.int x4]) (rest := [.int r_24]) ⟨hx, hb, hml, hown, hg⟩ (m_X5_digit l G h  x1 x4 _ hw H.size) (cwV 1 hg (x_gV km_X5_30 ki_X5_digit kz_X5_X5_digit kn_X5 kk_X5_digit) rfl rfl rfl (by decide +kernel) ⟨Nat.le_of_ble_eq_true rfl, Nat.le_of_ble_eq_true rfl⟩) ⟨x_blind, x_recv hI hK he_30 rfl rfl, x_pre hI hK⟩ rfl rfl hl.1 rfl (lv_room (Nat.le_of_ble_eq_true rfl)) dX5_differenceOfDigits_30 ⟨show nc + 0 + 0 ≤ mc by omega, show ns + 0 + 0 ≤ ms by omega⟩) hI (fun r_30 h_30 H locs hw hI => ?_)
      obtain ⟨eh_30, hw⟩ := hw
      rw [eh_30] at hI
      refine lv_isub hx hb dX5_differenceOfDigits_33 ?_
      refine lv_iload_n hx hb dX5_differenceOfDigits_34 rfl (lv_at hl 3 rfl) ?_
      refine lv_iadd hx hb dX5_differenceOfDigits_35 ?_
      refine lv_topi (fun x5_36 ex5_36 => ?_)
      have hw := hw x5_36 ex5_36
      refine lv_istore (lv' := [(5, .int x5_36), (0, .ref x0), (1, .ref x1), (2, .ref x2), (3, .int x3), (4, .int x4)]) hx hb dX5_differenceOfDigits_36 hl (by decide) rfl (fun ls hl => ?_)
      refine lv_aload_n hx hb dX5_differenceOfDigits_38 rfl (lv_at hl 3 rfl) ?_
      refine lv_iload hx hb dX5_differenceOfDigits_39 (lv_at hl 5 rfl) ?_
      refine lv_iload hx hb dX5_differenceOfDigits_41 (lv_at hl 0 rfl) ?_
      refine lv_ldc (v := 65535) hx hb hown (hg _ kc_X5_20) dX5_differenceOfDigits_43 ?_
      refine lv_iand hx hb dX5_differenceOfDigits_45 ?_
      obtain ⟨n_46, f_46, he_46, hw⟩ := hw
      obtain ⟨hi46, hw⟩ := hw
      refine x_iast hx hb hK hI he_46 hi46 dX5_differenceOfDigits_46 (fun H locs hI => ?_)
      obtain ⟨h_46, eh_46⟩ : ∃ z : xH, z = x_up h x2 (.inl (0, n_46, .inl (upd f_46 (x4 : Int32).toNatClampNeg (x5_36 &&& 65535)))) := ⟨_, rfl⟩
      rw [← eh_46] at hI
      have hw := hw h_46 eh_46
      have heh_46 : h_46 x2 = some (.inl (0, n_46, .inl (upd f_46 (x4 : Int32).toNatClampNeg (x5_36 &&& 65535)))) := by rw [eh_46]; exact x_up_s
      refine lv_iload hx hb dX5_differenceOfDigits_47 (lv_at hl 0 rfl) ?_
      refine lv_bipush (v := 16) hx hb dX5_differenceOfDigits_49 (by decide) ?_
      refine lv_ishr hx hb dX5_differenceOfDigits_51 ?_
      refine lv_topi (fun x3_52 ex3_52 => ?_)
      have hw := hw x3_52 ex3_52
      refine lv_istore_n (lv' := [(3, .int x3_52), (5, .int x5_36), (0, .ref x0), (1, .ref x1), (2, .ref x2), (4, .int x4)]) hx hb dX5_differenceOfDigits_52 rfl hl (by decide) rfl (fun ls hl => ?_)
      obtain ⟨x4_53, ex4_53⟩ : ∃ y : Int32, y = x4 + 1 := ⟨_, rfl⟩
      have hw := hw x4_53 ex4_53
      refine lv_iinc (v := x4_53) (lv' := [(4, .int x4_53), (3, .int x3_52), (5, .int x5_36), (0, .ref x0), (1, .ref x1), (2, .ref x2)]) hx hb dX5_differenceOfDigits_53 hl (k := 5) rfl (by rw [ex4_53]; rfl) (by decide) rfl (fun ls hl => ?_)
      refine lv_goto (tgt := 12) hx hb dX5_differenceOfDigits_56 (by decide) ?_
      exact ih _ _ _ _ _ _ _ _ _ _ _ _ _ hw hI (by omega) (by omega) (lv_sub hl [3, 4, 5, 1, 0] rfl)
set_option maxHeartbeats 4000000 in
set_option maxRecDepth 100000 in
theorem m_X5_differenceOfDigits (l : Launch) (G : xG) (h0 : xH) (mc ms : Nat) (x0 : Nat) (x1 : Nat) (post : Nat → xH → Prop) (hw : wp_X5_differenceOfDigits h0 mc ms x0 x1 post) (sz : Nat) : Met l yX5_differenceOfDigits (wu yX5_differenceOfDigits cX5_differenceOfDigits 6 (some (.array .int))) (rX5_differenceOfDigits mc ms) (x_Pc G [.ref x0, .ref x1] h0 sz) (x_Qr G h0 sz post) mc ms (x_A h0 sz) := by
  refine Met.ofW (cc := cX5_differenceOfDigits) (maxL := 6) (ret := (some (.array .int))) (by decide) rfl ?_
  intro p e s m args below meth c s₁ B hml hv
  obtain ⟨rfl, hsz, hR, hK⟩ := hv
  subst hsz
  have C : CX p s m _ meth c G RX5 cX5_differenceOfDigits 6 (some (.array .int)) := ⟨B.exec, B.bytes, B.returns, hml, findClass_of_methodNamed B.named, x_hg (atoms_spec (ws := wu yX5_differenceOfDigits cX5_differenceOfDigits 6 (some (.array .int))) B.pre), B.notSynchronized, hK⟩
  obtain ⟨hx, hb, hr, hml, hown, hg, hlocks, hK⟩ := id C
  have hI : x_I G (x_A h0 s.heap.size) s.heap h0 s.heap [] := x_I.start hR
  have hkc : 0 + mc ≤ mc := by omega
  have hks : 0 + ms ≤ ms := by omega
  have hl := lv_entry ([.ref x0, .ref x1]) (n := 6) (Nat.le_of_ble_eq_true rfl)
  rw [lg_entry_eq]
  generalize (lg_sl ([.ref x0, .ref x1]) ++ List.replicate (6 - (lg_sl ([.ref x0, .ref x1])).length) Slot.unset).toArray = ls at hl ⊢
  have hl : lv_has ls 6 [(0, .ref x0), (1, .ref x1)] := hl
  unfold wp_X5_differenceOfDigits at hw
  refine lv_aload_n hx hb dX5_differenceOfDigits_0 rfl (lv_at hl 0 rfl) ?_
  obtain ⟨fs_1, he_1, hw⟩ := hw
  obtain ⟨v_1, hv_1, hw⟩ := hw
  refine x_get (ci := 5) (C := RX5) (T := TX5) (N := 3) hx hb hg ku_X5 hown hK hI he_1 rfl 2 (by decide) (hg _ kf_X5_17) (fun _ h9 => h9) hv_1 dX5_differenceOfDigits_1 ?_
  obtain ⟨hneg4, hw⟩ := hw
  obtain ⟨z_4, hz4⟩ : ∃ z : Nat, (v_1 : Int32).toNatClampNeg = z := ⟨_, rfl⟩
  obtain ⟨hz24, hkc1, hks1, hw⟩ := hw z_4 hz4
  refine x_newi hx hb (hg _ ka_int) hK hI hneg4 hz4 (by omega) (show 0 + 1 ≤ mc by omega) (show 0 + z_4 ≤ ms by omega) dX5_differenceOfDigits_4 (fun q_4 H hfr4 hI => ?_)
  have hw := hw q_4 hfr4
  obtain ⟨h_4, eh_4⟩ : ∃ z : xH, z = x_up h0 q_4 (.inl (0, z_4, .inl (fun _ => 0))) := ⟨_, rfl⟩
  rw [← eh_4] at hI
  have hw := hw h_4 eh_4
  have heh_4 : h_4 q_4 = some (.inl (0, z_4, .inl (fun _ => 0))) := by rw [eh_4]; exact x_up_s
  refine lv_astore_n (lv' := [(2, .ref q_4), (0, .ref x0), (1, .ref x1)]) hx hb dX5_differenceOfDigits_6 rfl hl (by decide) rfl (fun ls hl => ?_)
  refine lv_iconst (v := 0) hx hb dX5_differenceOfDigits_7 (by decide) ?_
  refine lv_istore_n (lv' := [(3, .int 0), (2, .ref q_4), (0, .ref x0), (1, .ref x1)]) hx hb dX5_differenceOfDigits_8 rfl hl (by decide) rfl (fun ls hl => ?_)
  refine lv_iconst (v := 0) hx hb dX5_differenceOfDigits_9 (by decide) ?_
  refine lv_istore (lv' := [(4, .int 0), (3, .int 0), (2, .ref q_4), (0, .ref x0), (1, .ref x1)]) hx hb dX5_differenceOfDigits_10 hl (by decide) rfl (fun ls hl => ?_)
  obtain ⟨n12, hw⟩ := hw
  refine ml_X5_differenceOfDigits_12 C h0 mc ms post _ ?_ n12 _ _ _ _ _ _ _ _ _ _ _ _ _ hw hI (by omega) (by omega) (lv_sub hl [3, 4, 2, 1, 0] rfl)
  · intro h kc ks x2 H locs ls nc ns hw hI hkc hks hl
    refine lv_aload_n hx hb dX5_differenceOfDigits_59 rfl (lv_at hl 0 rfl) ?_
    exact x_aret hx hb hr (by first | exact Or.inl ⟨_, rfl⟩ | exact Or.inr ⟨_, rfl⟩) hlocks hI hw (by omega) (by omega) dX5_differenceOfDigits_60
-- ===== ExactFilter$Whole.plus
abbrev rX5_plus (mc ms : Nat) : Room := { frames := 2, cells := mc, slots := ms, locals := 46 }
def wj_X5_plus_89  (post : Nat → xH → Prop)  (h : xH) (kc : Nat) (ks : Nat) (s0 : Nat) : Prop := post s0 h
def wp_X5_plus (h0 : xH) (mc ms : Nat) (x0 : Nat) (x1 : Nat) (post : Nat → xH → Prop) : Prop := ∃ fs_1 : List Value, h0 x0 = some (.inr (5, fs_1)) ∧ ∃ v_1 : Int32, fs_1[0]? = some (.int v_1) ∧ (¬ v_1 = 0 → ∃ fs_10 : List Value, h0 x1 = some (.inr (5, fs_10)) ∧ ∃ v_10 : Int32, fs_10[0]? = some (.int v_10) ∧ (¬ v_10 = 0 → (¬ v_1 = v_10 → wp_X5_sizeAgainst h0  x0 x1 (fun (r_48 : Int32) => (r_48 < 0 → 1 ≤ mc ∧ 3 ≤ ms ∧ ∀ q_73 : Nat, x_fresh h0 q_73 → ∀ h_73 : xH, h_73 = x_up h0 q_73 (.inr (5, [.int 0, .null, .int 0])) → ∃ fs_78 : List Value, h_73 x1 = some (.inr (5, fs_78)) ∧ ∃ v_78 : Int32, fs_78[0]? = some (.int v_78) ∧ ∃ mc_83 ms_83 : Nat, mc_83 ≤ (mc - 1) ∧ ms_83 ≤ (ms - 3) ∧ wp_X5_differenceOfDigits h_73 mc_83 ms_83 x1 x0 (fun (r_83 : Nat) (h_83 : xH) => wp_X5_init h_83  q_73 v_78 r_83 (fun (h_86 : xH) => wj_X5_plus_89  post  h_86 ((mc - 1) - mc_83) ((ms - 3) - ms_83) q_73))) ∧ (¬ r_48 < 0 → 1 ≤ mc ∧ 3 ≤ ms ∧ ∀ q_54 : Nat, x_fresh h0 q_54 → ∀ h_54 : xH, h_54 = x_up h0 q_54 (.inr (5, [.int 0, .null, .int 0])) → ∃ fs_59 : List Value, h_54 x0 = some (.inr (5, fs_59)) ∧ ∃ v_59 : Int32, fs_59[0]? = some (.int v_59) ∧ ∃ mc_64 ms_64 : Nat, mc_64 ≤ (mc - 1) ∧ ms_64 ≤ (ms - 3) ∧ wp_X5_differenceOfDigits h_54 mc_64 ms_64 x0 x1 (fun (r_64 : Nat) (h_64 : xH) => wp_X5_init h_64  q_54 v_59 r_64 (fun (h_67 : xH) => wj_X5_plus_89  post  h_67 ((mc - 1) - mc_64) ((ms - 3) - ms_64) q_54))))) ∧ (v_1 = v_10 → 1 ≤ mc ∧ 3 ≤ ms ∧ ∀ q_29 : Nat, x_fresh h0 q_29 → ∀ h_29 : xH, h_29 = x_up h0 q_29 (.inr (5, [.int 0, .null, .int 0])) → ∃ fs_34 : List Value, h_29 x0 = some (.inr (5, fs_34)) ∧ ∃ v_34 : Int32, fs_34[0]? = some (.int v_34) ∧ ∃ mc_39 ms_39 : Nat, mc_39 ≤ (mc - 1) ∧ ms_39 ≤ (ms - 3) ∧ wp_X5_sumOfDigits h_29 mc_39 ms_39 x0 x1 (fun (r_39 : Nat) (h_39 : xH) => wp_X5_init h_39  q_29 v_34 r_39 (fun (h_42 : xH) => post q_29 h_42)))) ∧ (v_10 = 0 → post x0 h0)) ∧ (v_1 = 0 → post x1 h0)
set_option maxHeartbeats 4000000 in
set_option maxRecDepth 100000 in
theorem mj_X5_plus_89 (C : CX p s m args meth c G RX5 cX5_plus 2 (some (.object "ExactFilter$Whole"))) (h0 : xH) (mc ms : Nat) (post : Nat → xH → Prop) 
    
    (h : xH) (kc : Nat) (ks : Nat) (s0 : Nat) (H : Heap) (locs : List Loc) (ls : Array Slot) (nc ns : Nat) (hw : wj_X5_plus_89  post  h kc ks s0) (hI : x_I G (x_A h0 s.heap.size) s.heap h H locs) (hkc : nc + kc ≤ mc) (hks : ns + ks ≤ ms) (hl : lv_has ls 2 []) : W p l e (rX5_plus mc ms) s m args below meth c H locs nc ns (MQ below (x_Qr G h0 s.heap.size post) args s mc ms (x_A h0 s.heap.size)) (F0 m 89 ls [.ref s0]) := by
  obtain ⟨hx, hb, hr, hml, hown, hg, hlocks, hK⟩ := id C
  unfold wj_X5_plus_89 at hw
  exact x_aret hx hb hr (by first | exact Or.inl ⟨_, rfl⟩ | exact Or.inr ⟨_, rfl⟩) hlocks hI hw (by omega) (by omega) dX5_plus_89
set_option maxHeartbeats 4000000 in
set_option maxRecDepth 100000 in
theorem m_X5_plus (l : Launch) (G : xG) (h0 : xH) (mc ms : Nat) (x0 : Nat) (x1 : Nat) (post : Nat → xH → Prop) (hw : wp_X5_plus h0 mc ms x0 x1 post) (sz : Nat) : Met l yX5_plus (wu yX5_plus cX5_plus 2 (some (.object "ExactFilter$Whole"))) (rX5_plus mc ms) (x_Pc G [.ref x0, .ref x1] h0 sz) (x_Qr G h0 sz post) mc ms (x_A h0 sz) := by
  refine Met.ofW (cc := cX5_plus) (maxL := 2) (ret := (some (.object "ExactFilter$Whole"))) (by decide) rfl ?_
  intro p e s m args below meth c s₁ B hml hv
  obtain ⟨rfl, hsz, hR, hK⟩ := hv
  subst hsz
  have C : CX p s m _ meth c G RX5 cX5_plus 2 (some (.object "ExactFilter$Whole")) := ⟨B.exec, B.bytes, B.returns, hml, findClass_of_methodNamed B.named, x_hg (atoms_spec (ws := wu yX5_plus cX5_plus 2 (some (.object "ExactFilter$Whole"))) B.pre), B.notSynchronized, hK⟩
  obtain ⟨hx, hb, hr, hml, hown, hg, hlocks, hK⟩ := id C
  have hI : x_I G (x_A h0 s.heap.size) s.heap h0 s.heap [] := x_I.start hR
  have hkc : 0 + mc ≤ mc := by omega
  have hks : 0 + ms ≤ ms := by omega
  have hl := lv_entry ([.ref x0, .ref x1]) (n := 2) (Nat.le_of_ble_eq_true rfl)
  rw [lg_entry_eq]
  generalize (lg_sl ([.ref x0, .ref x1]) ++ List.replicate (2 - (lg_sl ([.ref x0, .ref x1])).length) Slot.unset).toArray = ls at hl ⊢
  have hl : lv_has ls 2 [(0, .ref x0), (1, .ref x1)] := hl
  unfold wp_X5_plus at hw
  refine lv_aload_n hx hb dX5_plus_0 rfl (lv_at hl 0 rfl) ?_
  obtain ⟨fs_1, he_1, hw⟩ := hw
  obtain ⟨v_1, hv_1, hw⟩ := hw
  refine x_get (ci := 5) (C := RX5) (T := TX5) (N := 3) hx hb hg ku_X5 hown hK hI he_1 rfl 0 (by decide) (hg _ kf_X5_7) (fun _ h9 => h9) hv_1 dX5_plus_1 ?_
  refine lv_if_ne (tgt := 9) hx hb dX5_plus_4 (by decide) (fun hc4 => ?_) (fun hc4 => ?_)
  · have hw := hw.1 hc4
    refine lv_aload_n hx hb dX5_plus_9 rfl (lv_at hl 1 rfl) ?_
    obtain ⟨fs_10, he_10, hw⟩ := hw
    obtain ⟨v_10, hv_10, hw⟩ := hw
    refine x_get (ci := 5) (C := RX5) (T := TX5) (N := 3) hx hb hg ku_X5 hown hK hI he_10 rfl 0 (by decide) (hg _ kf_X5_7) (fun _ h9 => h9) hv_10 dX5_plus_10 ?_
    refine lv_if_ne (tgt := 18) hx hb dX5_plus_13 (by decide) (fun hc13 => ?_) (fun hc13 => ?_)
    · have hw := hw.1 hc13
      refine lv_aload_n hx hb dX5_plus_18 rfl (lv_at hl 0 rfl) ?_
      refine x_get (ci := 5) (C := RX5) (T := TX5) (N := 3) hx hb hg ku_X5 hown hK hI he_1 rfl 0 (by decide) (hg _ kf_X5_7) (fun _ h9 => h9) hv_1 dX5_plus_19 ?_
      refine lv_aload_n hx hb dX5_plus_22 rfl (lv_at hl 1 rfl) ?_
      refine x_get (ci := 5) (C := RX5) (T := TX5) (N := 3) hx hb hg ku_X5 hown hK hI he_10 rfl 0 (by decide) (hg _ kf_X5_7) (fun _ h9 => h9) hv_10 dX5_plus_23 ?_
      refine lv_icmp_ne (tgt := 46) hx hb dX5_plus_26 (by decide) (fun hc26 => ?_) (fun hc26 => ?_)
      · have hw := hw.1 hc26
        refine lv_aload_n hx hb dX5_plus_46 rfl (lv_at hl 0 rfl) ?_
        refine lv_aload_n hx hb dX5_plus_47 rfl (lv_at hl 1 rfl) ?_
        refine x_ci (va_runV (As := [.ref x1]) (rest := []) ⟨hx, hb, hml, hown, hg⟩ (m_X5_sizeAgainst l G h0  x0 x1 _ hw s.heap.size) (cwV 1 hg (x_gV km_X5_44 ki_X5_sizeAgainst kz_X5_X5_sizeAgainst kn_X5 kk_X5_sizeAgainst) rfl rfl rfl (by decide +kernel) ⟨Nat.le_of_ble_eq_true rfl, Nat.le_of_ble_eq_true rfl⟩) ⟨x_blind, x_recv hI hK he_1 rfl rfl, x_pre hI hK⟩ rfl rfl hl.1 rfl (lv_room (Nat.le_of_ble_eq_true rfl)) dX5_plus_48 ⟨show 0 + 0 ≤ mc by omega, show 0 + 0 ≤ ms by omega⟩) hI (fun r_48 h_48 H locs hw hI => ?_)
        obtain ⟨eh_48, hw⟩ := hw
        rw [eh_48] at hI
        refine lv_if_lt (tgt := 73) hx hb dX5_plus_51 (by decide) (fun hc51 => ?_) (fun hc51 => ?_)
        · have hw := hw.1 hc51
          obtain ⟨hkc1, hks1, hw⟩ := hw
          refine x_new (ci := 5) (fs := [.int 0, .null, .int 0]) (C := RX5) (T := TX5) (N := 3) hx hb hg ku_X5 tyX5 tyX5_ok hown (hg _ kl_X5_8) (hg _ kt_X5) (hg _ kn_X5) hK hI rfl (by decide +kernel) (show 0 + 0 + 1 ≤ mc by omega) (show 0 + 0 + 3 ≤ ms by omega) dX5_plus_73 (fun q_73 H hfr73 hI => ?_)
          have hw := hw q_73 hfr73
          obtain ⟨h_73, eh_73⟩ : ∃ z : xH, z = x_up h0 q_73 (.inr (5, [.int 0, .null, .int 0])) := ⟨_, rfl⟩
          rw [← eh_73] at hI
          have hw := hw h_73 eh_73
          have heh_73 : h_73 q_73 = some (.inr (5, [.int 0, .null, .int 0])) := by rw [eh_73]; exact x_up_s
          refine lv_dup hx hb dX5_plus_76 rfl ?_
          refine lv_aload_n hx hb dX5_plus_77 rfl (lv_at hl 1 rfl) ?_
          obtain ⟨fs_78, he_78, hw⟩ := hw
          obtain ⟨v_78, hv_78, hw⟩ := hw
          refine x_get (ci := 5) (C := RX5) (T := TX5) (N := 3) hx hb hg ku_X5 hown hK hI he_78 rfl 0 (by decide) (hg _ kf_X5_7) (fun _ h9 => h9) hv_78 dX5_plus_78 ?_
          refine lv_aload_n hx hb dX5_plus_81 rfl (lv_at hl 1 rfl) ?_
          refine lv_aload_n hx hb dX5_plus_82 rfl (lv_at hl 0 rfl) ?_
          obtain ⟨mc_83, ms_83, hkc1, hks1, hw⟩ := hw
          refine x_cr (va_runV (As := [.ref x0]) (rest := [.int v_78, .ref q_73, .ref q_73]) ⟨hx, hb, hml, hown, hg⟩ (m_X5_differenceOfDigits l G h_73 mc_83 ms_83 x1 x0 _ hw H.size) (cwV 1 hg (x_gV km_X5_48 ki_X5_differenceOfDigits kz_X5_X5_differenceOfDigits kn_X5 kk_X5_differenceOfDigits) rfl rfl rfl (by decide +kernel) ⟨Nat.le_of_ble_eq_true rfl, Nat.le_of_ble_eq_true rfl⟩) ⟨x_blind, x_recv hI hK he_78 rfl rfl, x_pre hI hK⟩ rfl rfl hl.1 rfl (lv_room (Nat.le_of_ble_eq_true rfl)) dX5_plus_83 ⟨show 0 + 0 + 1 + mc_83 ≤ mc by omega, show 0 + 0 + 3 + ms_83 ≤ ms by omega⟩) hI (fun r_83 h_83 H locs hw hI => ?_)
          refine x_cv (va_runI (As := [.int v_78, .ref r_83]) (rest := [.ref q_73]) ⟨hx, hb, hml, hown, hg⟩ (m_X5_init l G h_83  q_73 v_78 r_83 _ hw H.size) (cwI 2 hg (x_gI kk_X5_init) rfl rfl rfl (hg _ kn_X5) (hg _ km_X5_21) (hg _ ki_X5_init) rfl (by decide +kernel) ⟨Nat.le_of_ble_eq_true rfl, Nat.le_of_ble_eq_true rfl⟩) ⟨x_blind, x_pre hI hK⟩ rfl rfl hl.1 rfl (lv_room (Nat.le_of_ble_eq_true rfl)) dX5_plus_86 ⟨show 0 + 0 + 1 + mc_83 + 0 ≤ mc by omega, show 0 + 0 + 3 + ms_83 + 0 ≤ ms by omega⟩) hI (fun h_86 H locs hw hI => ?_)
          exact mj_X5_plus_89 C h0 mc ms post  _ _ _ _ _ _ _ _ _ hw hI (by omega) (by omega) (lv_sub hl [] rfl)
        · have hw := hw.2 hc51
          obtain ⟨hkc1, hks1, hw⟩ := hw
          refine x_new (ci := 5) (fs := [.int 0, .null, .int 0]) (C := RX5) (T := TX5) (N := 3) hx hb hg ku_X5 tyX5 tyX5_ok hown (hg _ kl_X5_8) (hg _ kt_X5) (hg _ kn_X5) hK hI rfl (by decide +kernel) (show 0 + 0 + 1 ≤ mc by omega) (show 0 + 0 + 3 ≤ ms by omega) dX5_plus_54 (fun q_54 H hfr54 hI => ?_)
          have hw := hw q_54 hfr54
          obtain ⟨h_54, eh_54⟩ : ∃ z : xH, z = x_up h0 q_54 (.inr (5, [.int 0, .null, .int 0])) := ⟨_, rfl⟩
          rw [← eh_54] at hI
          have hw := hw h_54 eh_54
          have heh_54 : h_54 q_54 = some (.inr (5, [.int 0, .null, .int 0])) := by rw [eh_54]; exact x_up_s
          refine lv_dup hx hb dX5_plus_57 rfl ?_
          refine lv_aload_n hx hb dX5_plus_58 rfl (lv_at hl 0 rfl) ?_
          obtain ⟨fs_59, he_59, hw⟩ := hw
          obtain ⟨v_59, hv_59, hw⟩ := hw
          refine x_get (ci := 5) (C := RX5) (T := TX5) (N := 3) hx hb hg ku_X5 hown hK hI he_59 rfl 0 (by decide) (hg _ kf_X5_7) (fun _ h9 => h9) hv_59 dX5_plus_59 ?_
          refine lv_aload_n hx hb dX5_plus_62 rfl (lv_at hl 0 rfl) ?_
          refine lv_aload_n hx hb dX5_plus_63 rfl (lv_at hl 1 rfl) ?_
          obtain ⟨mc_64, ms_64, hkc1, hks1, hw⟩ := hw
          refine x_cr (va_runV (As := [.ref x1]) (rest := [.int v_59, .ref q_54, .ref q_54]) ⟨hx, hb, hml, hown, hg⟩ (m_X5_differenceOfDigits l G h_54 mc_64 ms_64 x0 x1 _ hw H.size) (cwV 1 hg (x_gV km_X5_48 ki_X5_differenceOfDigits kz_X5_X5_differenceOfDigits kn_X5 kk_X5_differenceOfDigits) rfl rfl rfl (by decide +kernel) ⟨Nat.le_of_ble_eq_true rfl, Nat.le_of_ble_eq_true rfl⟩) ⟨x_blind, x_recv hI hK he_59 rfl rfl, x_pre hI hK⟩ rfl rfl hl.1 rfl (lv_room (Nat.le_of_ble_eq_true rfl)) dX5_plus_64 ⟨show 0 + 0 + 1 + mc_64 ≤ mc by omega, show 0 + 0 + 3 + ms_64 ≤ ms by omega⟩) hI (fun r_64 h_64 H locs hw hI => ?_)
          refine x_cv (va_runI (As := [.int v_59, .ref r_64]) (rest := [.ref q_54]) ⟨hx, hb, hml, hown, hg⟩ (m_X5_init l G h_64  q_54 v_59 r_64 _ hw H.size) (cwI 2 hg (x_gI kk_X5_init) rfl rfl rfl (hg _ kn_X5) (hg _ km_X5_21) (hg _ ki_X5_init) rfl (by decide +kernel) ⟨Nat.le_of_ble_eq_true rfl, Nat.le_of_ble_eq_true rfl⟩) ⟨x_blind, x_pre hI hK⟩ rfl rfl hl.1 rfl (lv_room (Nat.le_of_ble_eq_true rfl)) dX5_plus_67 ⟨show 0 + 0 + 1 + mc_64 + 0 ≤ mc by omega, show 0 + 0 + 3 + ms_64 + 0 ≤ ms by omega⟩) hI (fun h_67 H locs hw hI => ?_)
          refine lv_goto (tgt := 89) hx hb dX5_plus_70 (by decide) ?_
          exact mj_X5_plus_89 C h0 mc ms post  _ _ _ _ _ _ _ _ _ hw hI (by omega) (by omega) (lv_sub hl [] rfl)
      · have hw := hw.2 hc26
        obtain ⟨hkc1, hks1, hw⟩ := hw
        refine x_new (ci := 5) (fs := [.int 0, .null, .int 0]) (C := RX5) (T := TX5) (N := 3) hx hb hg ku_X5 tyX5 tyX5_ok hown (hg _ kl_X5_8) (hg _ kt_X5) (hg _ kn_X5) hK hI rfl (by decide +kernel) (show 0 + 1 ≤ mc by omega) (show 0 + 3 ≤ ms by omega) dX5_plus_29 (fun q_29 H hfr29 hI => ?_)
        have hw := hw q_29 hfr29
        obtain ⟨h_29, eh_29⟩ : ∃ z : xH, z = x_up h0 q_29 (.inr (5, [.int 0, .null, .int 0])) := ⟨_, rfl⟩
        rw [← eh_29] at hI
        have hw := hw h_29 eh_29
        have heh_29 : h_29 q_29 = some (.inr (5, [.int 0, .null, .int 0])) := by rw [eh_29]; exact x_up_s
        refine lv_dup hx hb dX5_plus_32 rfl ?_
        refine lv_aload_n hx hb dX5_plus_33 rfl (lv_at hl 0 rfl) ?_
        obtain ⟨fs_34, he_34, hw⟩ := hw
        obtain ⟨v_34, hv_34, hw⟩ := hw
        refine x_get (ci := 5) (C := RX5) (T := TX5) (N := 3) hx hb hg ku_X5 hown hK hI he_34 rfl 0 (by decide) (hg _ kf_X5_7) (fun _ h9 => h9) hv_34 dX5_plus_34 ?_
        refine lv_aload_n hx hb dX5_plus_37 rfl (lv_at hl 0 rfl) ?_
        refine lv_aload_n hx hb dX5_plus_38 rfl (lv_at hl 1 rfl) ?_
        obtain ⟨mc_39, ms_39, hkc1, hks1, hw⟩ := hw
        refine x_cr (va_runV (As := [.ref x1]) (rest := [.int v_34, .ref q_29, .ref q_29]) ⟨hx, hb, hml, hown, hg⟩ (m_X5_sumOfDigits l G h_29 mc_39 ms_39 x0 x1 _ hw H.size) (cwV 1 hg (x_gV km_X5_40 ki_X5_sumOfDigits kz_X5_X5_sumOfDigits kn_X5 kk_X5_sumOfDigits) rfl rfl rfl (by decide +kernel) ⟨Nat.le_of_ble_eq_true rfl, Nat.le_of_ble_eq_true rfl⟩) ⟨x_blind, x_recv hI hK he_34 rfl rfl, x_pre hI hK⟩ rfl rfl hl.1 rfl (lv_room (Nat.le_of_ble_eq_true rfl)) dX5_plus_39 ⟨show 0 + 1 + mc_39 ≤ mc by omega, show 0 + 3 + ms_39 ≤ ms by omega⟩) hI (fun r_39 h_39 H locs hw hI => ?_)
        refine x_cv (va_runI (As := [.int v_34, .ref r_39]) (rest := [.ref q_29]) ⟨hx, hb, hml, hown, hg⟩ (m_X5_init l G h_39  q_29 v_34 r_39 _ hw H.size) (cwI 2 hg (x_gI kk_X5_init) rfl rfl rfl (hg _ kn_X5) (hg _ km_X5_21) (hg _ ki_X5_init) rfl (by decide +kernel) ⟨Nat.le_of_ble_eq_true rfl, Nat.le_of_ble_eq_true rfl⟩) ⟨x_blind, x_pre hI hK⟩ rfl rfl hl.1 rfl (lv_room (Nat.le_of_ble_eq_true rfl)) dX5_plus_42 ⟨show 0 + 1 + mc_39 + 0 ≤ mc by omega, show 0 + 3 + ms_39 + 0 ≤ ms by omega⟩) hI (fun h_42 H locs hw hI => ?_)
        exact x_aret hx hb hr (by first | exact Or.inl ⟨_, rfl⟩ | exact Or.inr ⟨_, rfl⟩) hlocks hI hw (by omega) (by omega) dX5_plus_45
    · have hw := hw.2 hc13
      refine lv_aload_n hx hb dX5_plus_16 rfl (lv_at hl 0 rfl) ?_
      exact x_aret hx hb hr (by first | exact Or.inl ⟨_, rfl⟩ | exact Or.inr ⟨_, rfl⟩) hlocks hI hw (by omega) (by omega) dX5_plus_17
  · have hw := hw.2 hc4
    refine lv_aload_n hx hb dX5_plus_7 rfl (lv_at hl 1 rfl) ?_
    exact x_aret hx hb hr (by first | exact Or.inl ⟨_, rfl⟩ | exact Or.inr ⟨_, rfl⟩) hlocks hI hw (by omega) (by omega) dX5_plus_8
-- ===== ExactFilter$Whole.times
abbrev rX5_times (mc ms : Nat) : Room := { frames := 2, cells := mc, slots := ms, locals := 43 }
def wj_X5_times_14  (post : Nat → xH → Prop)  (h : xH) (kc : Nat) (ks : Nat) : Prop := 1 ≤ kc ∧ 3 ≤ ks ∧ ∀ q_14 : Nat, x_fresh h q_14 → ∀ h_14 : xH, h_14 = x_up h q_14 (.inr (5, [.int 0, .null, .int 0])) → ¬ (0 : Int32) < 0 ∧ ∀ z_20 : Nat, (0 : Int32).toNatClampNeg = z_20 → z_20 ≤ 60000000 ∧ 1 ≤ (kc - 1) ∧ z_20 ≤ (ks - 3) ∧ ∀ q_20 : Nat, x_fresh h_14 q_20 → ∀ h_20 : xH, h_20 = x_up h_14 q_20 (.inl (0, z_20, .inl (fun _ => 0))) → wp_X5_init h_20  q_14 0 q_20 (fun (h_22 : xH) => post q_14 h_22)
def wl_X5_times_63  (post : Nat → xH → Prop) (K122 : xH → Nat → Nat → Nat → Nat → Nat → Int32 → Int64 → Prop) : Nat → xH → Nat → Nat → Nat → Nat → Nat → Int32 → Int64 → Int64 → Int32 → Prop
  | 0, _, _, _, _, _, _, _, _, _, _ => False
  | n + 1, h, kc, ks, x0, x1, x2, x3, x4, x6, x8 => ∃ fs_66 : List Value, h x1 = some (.inr (5, fs_66)) ∧ ∃ v_66 : Int32, fs_66[2]? = some (.int v_66) ∧ (v_66 ≤ x8 → K122 h kc ks x0 x1 x2 x3 x6) ∧ (¬ v_66 ≤ x8 → ∃ (n_77 : Nat) (f_77 : Nat → Int32), h x2 = some (.inl (0, n_77, .inl f_77)) ∧ vp_in (x3 + x8) n_77 ∧ ∃ v_82 : Nat, fs_66[1]? = some (.ref v_82) ∧ ∃ (n_87 : Nat) (f_87 : Nat → Int32), h v_82 = some (.inl (0, n_87, .inl f_87)) ∧ vp_in x8 n_87 ∧ ∀ (x9_94 : Int64), x9_94 = (((((f_77 ((x3 + x8) : Int32).toNatClampNeg) : Int32).toInt64) + (x4 * (((f_87 (x8 : Int32).toNatClampNeg) : Int32).toInt64))) + x6) → vp_in (x3 + x8) n_77 ∧ ∀ h_108 : xH, h_108 = x_up h x2 (.inl (0, n_77, .inl (upd f_77 ((x3 + x8) : Int32).toNatClampNeg (((x9_94 &&& 65535) : Int64).toInt32)))) → ∀ (x6_114 : Int64), x6_114 = (x9_94 >>> ((16 : Int32).toInt64 &&& 63)) → ∀ (x8_116 : Int32), x8_116 = x8 + 1 → wl_X5_times_63  post K122 n h_108 kc ks x0 x1 x2 x3 x4 x6_114 x8_116)
def wl_X5_times_40  (post : Nat → xH → Prop) (K139 : xH → Nat → Nat → Nat → Nat → Nat → Prop) : Nat → xH → Nat → Nat → Nat → Nat → Nat → Int32 → Prop
  | 0, _, _, _, _, _, _, _ => False
  | n + 1, h, kc, ks, x0, x1, x2, x3 => ∃ fs_42 : List Value, h x0 = some (.inr (5, fs_42)) ∧ ∃ v_42 : Int32, fs_42[2]? = some (.int v_42) ∧ (v_42 ≤ x3 → K139 h kc ks x0 x1 x2) ∧ (¬ v_42 ≤ x3 → ∃ v_49 : Nat, fs_42[1]? = some (.ref v_49) ∧ ∃ (n_53 : Nat) (f_53 : Nat → Int32), h v_49 = some (.inl (0, n_53, .inl f_53)) ∧ vp_in x3 n_53 ∧ ∀ (x4_55 : Int64), x4_55 = (((f_53 (x3 : Int32).toNatClampNeg) : Int32).toInt64) → ∃ n63 : Nat, wl_X5_times_63  post (fun (h : xH) (kc : Nat) (ks : Nat) (x0 : Nat) (x1 : Nat) (x2 : Nat) (x3 : Int32) (x6 : Int64) => ∃ fs_125 : List Value, h x1 = some (.inr (5, fs_125)) ∧ ∃ v_125 : Int32, fs_125[2]? = some (.int v_125) ∧ ∃ (n_132 : Nat) (f_132 : Nat → Int32), h x2 = some (.inl (0, n_132, .inl f_132)) ∧ vp_in (x3 + v_125) n_132 ∧ ∀ h_132 : xH, h_132 = x_up h x2 (.inl (0, n_132, .inl (upd f_132 ((x3 + v_125) : Int32).toNatClampNeg ((x6 : Int64).toInt32)))) → ∀ (x3_133 : Int32), x3_133 = x3 + 1 → wl_X5_times_40  post K139 n h_132 kc ks x0 x1 x2 x3_133) n63 h kc ks x0 x1 x2 x3 x4_55 0 0)
def wp_X5_times (h0 : xH) (mc ms : Nat) (x0 : Nat) (x1 : Nat) (post : Nat → xH → Prop) : Prop := ∃ fs_1 : List Value, h0 x0 = some (.inr (5, fs_1)) ∧ ∃ v_1 : Int32, fs_1[0]? = some (.int v_1) ∧ (v_1 = 0 → wj_X5_times_14  post  h0 mc ms) ∧ (¬ v_1 = 0 → ∃ fs_8 : List Value, h0 x1 = some (.inr (5, fs_8)) ∧ ∃ v_8 : Int32, fs_8[0]? = some (.int v_8) ∧ (¬ v_8 = 0 → ∃ v_27 : Int32, fs_1[2]? = some (.int v_27) ∧ ∃ v_31 : Int32, fs_8[2]? = some (.int v_31) ∧ ¬ ((v_27 + v_31) : Int32) < 0 ∧ ∀ z_35 : Nat, ((v_27 + v_31) : Int32).toNatClampNeg = z_35 → z_35 ≤ 60000000 ∧ 1 ≤ mc ∧ z_35 ≤ ms ∧ ∀ q_35 : Nat, x_fresh h0 q_35 → ∀ h_35 : xH, h_35 = x_up h0 q_35 (.inl (0, z_35, .inl (fun _ => 0))) → ∃ n40 : Nat, wl_X5_times_40  post (fun (h : xH) (kc : Nat) (ks : Nat) (x0 : Nat) (x1 : Nat) (x2 : Nat) => 1 ≤ kc ∧ 3 ≤ ks ∧ ∀ q_139 : Nat, x_fresh h q_139 → ∀ h_139 : xH, h_139 = x_up h q_139 (.inr (5, [.int 0, .null, .int 0])) → ∃ fs_144 : List Value, h_139 x0 = some (.inr (5, fs_144)) ∧ ∃ v_144 : Int32, fs_144[0]? = some (.int v_144) ∧ ∃ fs_148 : List Value, h_139 x1 = some (.inr (5, fs_148)) ∧ ∃ v_148 : Int32, fs_148[0]? = some (.int v_148) ∧ wp_X5_init h_139  q_139 (v_144 * v_148) x2 (fun (h_153 : xH) => post q_139 h_153)) n40 h_35 (mc - 1) (ms - z_35) x0 x1 q_35 0) ∧ (v_8 = 0 → wj_X5_times_14  post  h0 mc ms))
set_option maxHeartbeats 4000000 in
set_option maxRecDepth 100000 in
theorem mj_X5_times_14 (C : CX p s m args meth c G RX5 cX5_times 11 (some (.object "ExactFilter$Whole"))) (h0 : xH) (mc ms : Nat) (post : Nat → xH → Prop) 
    
    (h : xH) (kc : Nat) (ks : Nat) (H : Heap) (locs : List Loc) (ls : Array Slot) (nc ns : Nat) (hw : wj_X5_times_14  post  h kc ks) (hI : x_I G (x_A h0 s.heap.size) s.heap h H locs) (hkc : nc + kc ≤ mc) (hks : ns + ks ≤ ms) (hl : lv_has ls 11 []) : W p l e (rX5_times mc ms) s m args below meth c H locs nc ns (MQ below (x_Qr G h0 s.heap.size post) args s mc ms (x_A h0 s.heap.size)) (F0 m 14 ls []) := by
  obtain ⟨hx, hb, hr, hml, hown, hg, hlocks, hK⟩ := id C
  unfold wj_X5_times_14 at hw
  obtain ⟨hkc1, hks1, hw⟩ := hw
  refine x_new (ci := 5) (fs := [.int 0, .null, .int 0]) (C := RX5) (T := TX5) (N := 3) hx hb hg ku_X5 tyX5 tyX5_ok hown (hg _ kl_X5_8) (hg _ kt_X5) (hg _ kn_X5) hK hI rfl (by decide +kernel) (show nc + 1 ≤ mc by omega) (show ns + 3 ≤ ms by omega) dX5_times_14 (fun q_14 H hfr14 hI => ?_)
  have hw := hw q_14 hfr14
  obtain ⟨h_14, eh_14⟩ : ∃ z : xH, z = x_up h q_14 (.inr (5, [.int 0, .null, .int 0])) := ⟨_, rfl⟩
  rw [← eh_14] at hI
  have hw := hw h_14 eh_14
  have heh_14 : h_14 q_14 = some (.inr (5, [.int 0, .null, .int 0])) := by rw [eh_14]; exact x_up_s
  refine lv_dup hx hb dX5_times_17 rfl ?_
  refine lv_iconst (v := 0) hx hb dX5_times_18 (by decide) ?_
  refine lv_iconst (v := 0) hx hb dX5_times_19 (by decide) ?_
  obtain ⟨hneg20, hw⟩ := hw
  obtain ⟨z_20, hz20⟩ : ∃ z : Nat, (0 : Int32).toNatClampNeg = z := ⟨_, rfl⟩
  obtain ⟨hz220, hkc1, hks1, hw⟩ := hw z_20 hz20
  refine x_newi hx hb (hg _ ka_int) hK hI hneg20 hz20 (by omega) (show nc + 1 + 1 ≤ mc by omega) (show ns + 3 + z_20 ≤ ms by omega) dX5_times_20 (fun q_20 H hfr20 hI => ?_)
  have hw := hw q_20 hfr20
  obtain ⟨h_20, eh_20⟩ : ∃ z : xH, z = x_up h_14 q_20 (.inl (0, z_20, .inl (fun _ => 0))) := ⟨_, rfl⟩
  rw [← eh_20] at hI
  have hw := hw h_20 eh_20
  have heh_20 : h_20 q_20 = some (.inl (0, z_20, .inl (fun _ => 0))) := by rw [eh_20]; exact x_up_s
  refine x_cv (va_runI (As := [.int 0, .ref q_20]) (rest := [.ref q_14]) ⟨hx, hb, hml, hown, hg⟩ (m_X5_init l G h_20  q_14 0 q_20 _ hw H.size) (cwI 2 hg (x_gI kk_X5_init) rfl rfl rfl (hg _ kn_X5) (hg _ km_X5_21) (hg _ ki_X5_init) rfl (by decide +kernel) ⟨Nat.le_of_ble_eq_true rfl, Nat.le_of_ble_eq_true rfl⟩) ⟨x_blind, x_pre hI hK⟩ rfl rfl hl.1 rfl (lv_room (Nat.le_of_ble_eq_true rfl)) dX5_times_22 ⟨show nc + 1 + 1 + 0 ≤ mc by omega, show ns + 3 + z_20 + 0 ≤ ms by omega⟩) hI (fun h_22 H locs hw hI => ?_)
  exact x_aret hx hb hr (by first | exact Or.inl ⟨_, rfl⟩ | exact Or.inr ⟨_, rfl⟩) hlocks hI hw (by omega) (by omega) dX5_times_25
set_option maxHeartbeats 4000000 in
set_option maxRecDepth 100000 in
theorem ml_X5_times_63 (C : CX p s m args meth c G RX5 cX5_times 11 (some (.object "ExactFilter$Whole"))) (h0 : xH) (mc ms : Nat) (post : Nat → xH → Prop) (K122 : xH → Nat → Nat → Nat → Nat → Nat → Int32 → Int64 → Prop)
    (hK122 : (∀ (h : xH) (kc : Nat) (ks : Nat) (x0 : Nat) (x1 : Nat) (x2 : Nat) (x3 : Int32) (x6 : Int64) (H : Heap) (locs : List Loc) (ls : Array Slot) (nc ns : Nat), K122 h kc ks x0 x1 x2 x3 x6 → x_I G (x_A h0 s.heap.size) s.heap h H locs → nc + kc ≤ mc → ns + ks ≤ ms → lv_has ls 11 [(0, .ref x0), (1, .ref x1), (2, .ref x2), (3, .int x3), (6, .long x6)] → W p l e (rX5_times mc ms) s m args below meth c H locs nc ns (MQ below (x_Qr G h0 s.heap.size post) args s mc ms (x_A h0 s.heap.size)) (F0 m 122 ls []))) :
    ∀ (n : Nat) (h : xH) (kc : Nat) (ks : Nat) (x0 : Nat) (x1 : Nat) (x2 : Nat) (x3 : Int32) (x4 : Int64) (x6 : Int64) (x8 : Int32) (H : Heap) (locs : List Loc) (ls : Array Slot) (nc ns : Nat), wl_X5_times_63  post K122 n h kc ks x0 x1 x2 x3 x4 x6 x8 → x_I G (x_A h0 s.heap.size) s.heap h H locs → nc + kc ≤ mc → ns + ks ≤ ms → lv_has ls 11 [(0, .ref x0), (1, .ref x1), (2, .ref x2), (3, .int x3), (4, .long x4), (6, .long x6), (8, .int x8)] → W p l e (rX5_times mc ms) s m args below meth c H locs nc ns (MQ below (x_Qr G h0 s.heap.size post) args s mc ms (x_A h0 s.heap.size)) (F0 m 63 ls []) := by
  obtain ⟨hx, hb, hr, hml, hown, hg, hlocks, hK⟩ := id C
  intro n
  induction n with
  | zero => intro h kc ks x0 x1 x2 x3 x4 x6 x8 H locs ls nc ns hw; exact absurd hw id
  | succ n ih =>
    intro h kc ks x0 x1 x2 x3 x4 x6 x8 H locs ls nc ns hw hI hkc hks hl
    refine lv_iload hx hb dX5_times_63 (lv_at hl 6 rfl) ?_
    refine lv_aload_n hx hb dX5_times_65 rfl (lv_at hl 1 rfl) ?_
    obtain ⟨fs_66, he_66, hw⟩ := hw
    obtain ⟨v_66, hv_66, hw⟩ := hw
    refine x_get (ci := 5) (C := RX5) (T := TX5) (N := 3) hx hb hg ku_X5 hown hK hI he_66 rfl 2 (by decide) (hg _ kf_X5_17) (fun _ h9 => h9) hv_66 dX5_times_66 ?_
    refine lv_icmp_ge (tgt := 122) hx hb dX5_times_69 (by decide) (fun hc69 => ?_) (fun hc69 => ?_)
    · have hw := hw.1 hc69
      exact hK122 _ _ _ _ _ _ _ _ _ _ _ _ _ hw hI (by omega) (by omega) (lv_sub hl [0, 1, 2, 3, 5] rfl)
    · have hw := hw.2 hc69
      refine lv_aload_n hx hb dX5_times_72 rfl (lv_at hl 2 rfl) ?_
      refine lv_iload_n hx hb dX5_times_73 rfl (lv_at hl 3 rfl) ?_
      refine lv_iload hx hb dX5_times_74 (lv_at hl 6 rfl) ?_
      refine lv_iadd hx hb dX5_times_76 ?_
      obtain ⟨n_77, f_77, he_77, hw⟩ := hw
      obtain ⟨hi77, hw⟩ := hw
      refine x_iald hx hb hK hI he_77 hi77 dX5_times_77 ?_
      refine lv_i2l (v := ((f_77 ((x3 + x8) : Int32).toNatClampNeg) : Int32).toInt64) hx hb dX5_times_78 rfl ?_
      refine lv_lload hx hb dX5_times_79 (lv_at hl 4 rfl) ?_
      refine lv_aload_n hx hb dX5_times_81 rfl (lv_at hl 1 rfl) ?_
      obtain ⟨v_82, hv_82, hw⟩ := hw
      refine x_get (ci := 5) (C := RX5) (T := TX5) (N := 3) hx hb hg ku_X5 hown hK hI he_66 rfl 1 (by decide) (hg _ kf_X5_13) (fun _ h9 => h9) hv_82 dX5_times_82 ?_
      refine lv_iload hx hb dX5_times_85 (lv_at hl 6 rfl) ?_
      obtain ⟨n_87, f_87, he_87, hw⟩ := hw
      obtain ⟨hi87, hw⟩ := hw
      refine x_iald hx hb hK hI he_87 hi87 dX5_times_87 ?_
      refine lv_i2l (v := ((f_87 (x8 : Int32).toNatClampNeg) : Int32).toInt64) hx hb dX5_times_88 rfl ?_
      refine lv_lmul hx hb dX5_times_89 ?_
      refine lv_ladd hx hb dX5_times_90 ?_
      refine lv_lload hx hb dX5_times_91 (lv_at hl 5 rfl) ?_
      refine lv_ladd hx hb dX5_times_93 ?_
      refine lv_topl (fun x9_94 ex9_94 => ?_)
      have hw := hw x9_94 ex9_94
      refine lv_lstore (lv' := [(9, .long x9_94), (0, .ref x0), (1, .ref x1), (2, .ref x2), (3, .int x3), (4, .long x4), (6, .long x6), (8, .int x8)]) hx hb dX5_times_94 hl (by decide) rfl (fun ls hl => ?_)
      refine lv_aload_n hx hb dX5_times_96 rfl (lv_at hl 3 rfl) ?_
      refine lv_iload_n hx hb dX5_times_97 rfl (lv_at hl 4 rfl) ?_
      refine lv_iload hx hb dX5_times_98 (lv_at hl 7 rfl) ?_
      refine lv_iadd hx hb dX5_times_100 ?_
      refine lv_lload hx hb dX5_times_101 (lv_at hl 0 rfl) ?_
      refine lv_ldc2 (v := 65535) hx hb hown (hg _ kc_X5_51) dX5_times_103 ?_
      refine lv_land hx hb dX5_times_106 ?_
      refine lv_l2i (v := ((x9_94 &&& 65535) : Int64).toInt32) hx hb dX5_times_107 rfl ?_
      obtain ⟨hi108, hw⟩ := hw
      refine x_iast hx hb hK hI he_77 hi108 dX5_times_108 (fun H locs hI => ?_)
      obtain ⟨h_108, eh_108⟩ : ∃ z : xH, z = x_up h x2 (.inl (0, n_77, .inl (upd f_77 ((x3 + x8) : Int32).toNatClampNeg (((x9_94 &&& 65535) : Int64).toInt32)))) := ⟨_, rfl⟩
      rw [← eh_108] at hI
      have hw := hw h_108 eh_108
      have heh_108 : h_108 x2 = some (.inl (0, n_77, .inl (upd f_77 ((x3 + x8) : Int32).toNatClampNeg (((x9_94 &&& 65535) : Int64).toInt32)))) := by rw [eh_108]; exact x_up_s
      refine lv_lload hx hb dX5_times_109 (lv_at hl 0 rfl) ?_
      refine lv_bipush (v := 16) hx hb dX5_times_111 (by decide) ?_
      refine lv_lshr (v := (x9_94 >>> ((16 : Int32).toInt64 &&& 63))) hx hb dX5_times_113 rfl ?_
      refine lv_topl (fun x6_114 ex6_114 => ?_)
      have hw := hw x6_114 ex6_114
      refine lv_lstore (lv' := [(6, .long x6_114), (9, .long x9_94), (0, .ref x0), (1, .ref x1), (2, .ref x2), (3, .int x3), (4, .long x4), (8, .int x8)]) hx hb dX5_times_114 hl (by decide) rfl (fun ls hl => ?_)
      obtain ⟨x8_116, ex8_116⟩ : ∃ y : Int32, y = x8 + 1 := ⟨_, rfl⟩
      have hw := hw x8_116 ex8_116
      refine lv_iinc (v := x8_116) (lv' := [(8, .int x8_116), (6, .long x6_114), (9, .long x9_94), (0, .ref x0), (1, .ref x1), (2, .ref x2), (3, .int x3), (4, .long x4)]) hx hb dX5_times_116 hl (k := 7) rfl (by rw [ex8_116]; rfl) (by decide) rfl (fun ls hl => ?_)
      refine lv_goto (tgt := 63) hx hb dX5_times_119 (by decide) ?_
      exact ih _ _ _ _ _ _ _ _ _ _ _ _ _ _ _ hw hI (by omega) (by omega) (lv_sub hl [3, 4, 5, 6, 7, 1, 0] rfl)
set_option maxHeartbeats 4000000 in
set_option maxRecDepth 100000 in
theorem ml_X5_times_40 (C : CX p s m args meth c G RX5 cX5_times 11 (some (.object "ExactFilter$Whole"))) (h0 : xH) (mc ms : Nat) (post : Nat → xH → Prop) (K139 : xH → Nat → Nat → Nat → Nat → Nat → Prop)
    (hK139 : (∀ (h : xH) (kc : Nat) (ks : Nat) (x0 : Nat) (x1 : Nat) (x2 : Nat) (H : Heap) (locs : List Loc) (ls : Array Slot) (nc ns : Nat), K139 h kc ks x0 x1 x2 → x_I G (x_A h0 s.heap.size) s.heap h H locs → nc + kc ≤ mc → ns + ks ≤ ms → lv_has ls 11 [(0, .ref x0), (1, .ref x1), (2, .ref x2)] → W p l e (rX5_times mc ms) s m args below meth c H locs nc ns (MQ below (x_Qr G h0 s.heap.size post) args s mc ms (x_A h0 s.heap.size)) (F0 m 139 ls []))) :
    ∀ (n : Nat) (h : xH) (kc : Nat) (ks : Nat) (x0 : Nat) (x1 : Nat) (x2 : Nat) (x3 : Int32) (H : Heap) (locs : List Loc) (ls : Array Slot) (nc ns : Nat), wl_X5_times_40  post K139 n h kc ks x0 x1 x2 x3 → x_I G (x_A h0 s.heap.size) s.heap h H locs → nc + kc ≤ mc → ns + ks ≤ ms → lv_has ls 11 [(0, .ref x0), (1, .ref x1), (2, .ref x2), (3, .int x3)] → W p l e (rX5_times mc ms) s m args below meth c H locs nc ns (MQ below (x_Qr G h0 s.heap.size post) args s mc ms (x_A h0 s.heap.size)) (F0 m 40 ls []) := by
  obtain ⟨hx, hb, hr, hml, hown, hg, hlocks, hK⟩ := id C
  intro n
  induction n with
  | zero => intro h kc ks x0 x1 x2 x3 H locs ls nc ns hw; exact absurd hw id
  | succ n ih =>
    intro h kc ks x0 x1 x2 x3 H locs ls nc ns hw hI hkc hks hl
    refine lv_iload_n hx hb dX5_times_40 rfl (lv_at hl 3 rfl) ?_
    refine lv_aload_n hx hb dX5_times_41 rfl (lv_at hl 0 rfl) ?_
    obtain ⟨fs_42, he_42, hw⟩ := hw
    obtain ⟨v_42, hv_42, hw⟩ := hw
    refine x_get (ci := 5) (C := RX5) (T := TX5) (N := 3) hx hb hg ku_X5 hown hK hI he_42 rfl 2 (by decide) (hg _ kf_X5_17) (fun _ h9 => h9) hv_42 dX5_times_42 ?_
    refine lv_icmp_ge (tgt := 139) hx hb dX5_times_45 (by decide) (fun hc45 => ?_) (fun hc45 => ?_)
    · have hw := hw.1 hc45
      exact hK139 _ _ _ _ _ _ _ _ _ _ _ hw hI (by omega) (by omega) (lv_sub hl [0, 1, 2] rfl)
    · have hw := hw.2 hc45
      refine lv_aload_n hx hb dX5_times_48 rfl (lv_at hl 0 rfl) ?_
      obtain ⟨v_49, hv_49, hw⟩ := hw
      refine x_get (ci := 5) (C := RX5) (T := TX5) (N := 3) hx hb hg ku_X5 hown hK hI he_42 rfl 1 (by decide) (hg _ kf_X5_13) (fun _ h9 => h9) hv_49 dX5_times_49 ?_
      refine lv_iload_n hx hb dX5_times_52 rfl (lv_at hl 3 rfl) ?_
      obtain ⟨n_53, f_53, he_53, hw⟩ := hw
      obtain ⟨hi53, hw⟩ := hw
      refine x_iald hx hb hK hI he_53 hi53 dX5_times_53 ?_
      refine lv_i2l (v := ((f_53 (x3 : Int32).toNatClampNeg) : Int32).toInt64) hx hb dX5_times_54 rfl ?_
      refine lv_topl (fun x4_55 ex4_55 => ?_)
      have hw := hw x4_55 ex4_55
      refine lv_lstore (lv' := [(4, .long x4_55), (0, .ref x0), (1, .ref x1), (2, .ref x2), (3, .int x3)]) hx hb dX5_times_55 hl (by decide) rfl (fun ls hl => ?_)
      refine lv_lconst (v := 0) hx hb dX5_times_57 (by decide) ?_
      refine lv_lstore (lv' := [(6, .long 0), (4, .long x4_55), (0, .ref x0), (1, .ref x1), (2, .ref x2), (3, .int x3)]) hx hb dX5_times_58 hl (by decide) rfl (fun ls hl => ?_)
      refine lv_iconst (v := 0) hx hb dX5_times_60 (by decide) ?_
      refine lv_istore (lv' := [(8, .int 0), (6, .long 0), (4, .long x4_55), (0, .ref x0), (1, .ref x1), (2, .ref x2), (3, .int x3)]) hx hb dX5_times_61 hl (by decide) rfl (fun ls hl => ?_)
      obtain ⟨n63, hw⟩ := hw
      refine ml_X5_times_63 C h0 mc ms post _ ?_ n63 _ _ _ _ _ _ _ _ _ _ _ _ _ _ _ hw hI (by omega) (by omega) (lv_sub hl [3, 4, 5, 6, 2, 1, 0] rfl)
      · intro h kc ks x0 x1 x2 x3 x6 H locs ls nc ns hw hI hkc hks hl
        refine lv_aload_n hx hb dX5_times_122 rfl (lv_at hl 2 rfl) ?_
        refine lv_iload_n hx hb dX5_times_123 rfl (lv_at hl 3 rfl) ?_
        refine lv_aload_n hx hb dX5_times_124 rfl (lv_at hl 1 rfl) ?_
        obtain ⟨fs_125, he_125, hw⟩ := hw
        obtain ⟨v_125, hv_125, hw⟩ := hw
        refine x_get (ci := 5) (C := RX5) (T := TX5) (N := 3) hx hb hg ku_X5 hown hK hI he_125 rfl 2 (by decide) (hg _ kf_X5_17) (fun _ h9 => h9) hv_125 dX5_times_125 ?_
        refine lv_iadd hx hb dX5_times_128 ?_
        refine lv_lload hx hb dX5_times_129 (lv_at hl 4 rfl) ?_
        refine lv_l2i (v := (x6 : Int64).toInt32) hx hb dX5_times_131 rfl ?_
        obtain ⟨n_132, f_132, he_132, hw⟩ := hw
        obtain ⟨hi132, hw⟩ := hw
        refine x_iast hx hb hK hI he_132 hi132 dX5_times_132 (fun H locs hI => ?_)
        obtain ⟨h_132, eh_132⟩ : ∃ z : xH, z = x_up h x2 (.inl (0, n_132, .inl (upd f_132 ((x3 + v_125) : Int32).toNatClampNeg ((x6 : Int64).toInt32)))) := ⟨_, rfl⟩
        rw [← eh_132] at hI
        have hw := hw h_132 eh_132
        have heh_132 : h_132 x2 = some (.inl (0, n_132, .inl (upd f_132 ((x3 + v_125) : Int32).toNatClampNeg ((x6 : Int64).toInt32)))) := by rw [eh_132]; exact x_up_s
        obtain ⟨x3_133, ex3_133⟩ : ∃ y : Int32, y = x3 + 1 := ⟨_, rfl⟩
        have hw := hw x3_133 ex3_133
        refine lv_iinc (v := x3_133) (lv' := [(3, .int x3_133), (0, .ref x0), (1, .ref x1), (2, .ref x2), (6, .long x6)]) hx hb dX5_times_133 hl (k := 3) rfl (by rw [ex3_133]; rfl) (by decide) rfl (fun ls hl => ?_)
        refine lv_goto (tgt := 40) hx hb dX5_times_136 (by decide) ?_
        exact ih _ _ _ _ _ _ _ _ _ _ _ _ hw hI (by omega) (by omega) (lv_sub hl [1, 2, 3, 0] rfl)
set_option maxHeartbeats 4000000 in
set_option maxRecDepth 100000 in
theorem m_X5_times (l : Launch) (G : xG) (h0 : xH) (mc ms : Nat) (x0 : Nat) (x1 : Nat) (post : Nat → xH → Prop) (hw : wp_X5_times h0 mc ms x0 x1 post) (sz : Nat) : Met l yX5_times (wu yX5_times cX5_times 11 (some (.object "ExactFilter$Whole"))) (rX5_times mc ms) (x_Pc G [.ref x0, .ref x1] h0 sz) (x_Qr G h0 sz post) mc ms (x_A h0 sz) := by
  refine Met.ofW (cc := cX5_times) (maxL := 11) (ret := (some (.object "ExactFilter$Whole"))) (by decide) rfl ?_
  intro p e s m args below meth c s₁ B hml hv
  obtain ⟨rfl, hsz, hR, hK⟩ := hv
  subst hsz
  have C : CX p s m _ meth c G RX5 cX5_times 11 (some (.object "ExactFilter$Whole")) := ⟨B.exec, B.bytes, B.returns, hml, findClass_of_methodNamed B.named, x_hg (atoms_spec (ws := wu yX5_times cX5_times 11 (some (.object "ExactFilter$Whole"))) B.pre), B.notSynchronized, hK⟩
  obtain ⟨hx, hb, hr, hml, hown, hg, hlocks, hK⟩ := id C
  have hI : x_I G (x_A h0 s.heap.size) s.heap h0 s.heap [] := x_I.start hR
  have hkc : 0 + mc ≤ mc := by omega
  have hks : 0 + ms ≤ ms := by omega
  have hl := lv_entry ([.ref x0, .ref x1]) (n := 11) (Nat.le_of_ble_eq_true rfl)
  rw [lg_entry_eq]
  generalize (lg_sl ([.ref x0, .ref x1]) ++ List.replicate (11 - (lg_sl ([.ref x0, .ref x1])).length) Slot.unset).toArray = ls at hl ⊢
  have hl : lv_has ls 11 [(0, .ref x0), (1, .ref x1)] := hl
  unfold wp_X5_times at hw
  refine lv_aload_n hx hb dX5_times_0 rfl (lv_at hl 0 rfl) ?_
  obtain ⟨fs_1, he_1, hw⟩ := hw
  obtain ⟨v_1, hv_1, hw⟩ := hw
  refine x_get (ci := 5) (C := RX5) (T := TX5) (N := 3) hx hb hg ku_X5 hown hK hI he_1 rfl 0 (by decide) (hg _ kf_X5_7) (fun _ h9 => h9) hv_1 dX5_times_1 ?_
  refine lv_if_eq (tgt := 14) hx hb dX5_times_4 (by decide) (fun hc4 => ?_) (fun hc4 => ?_)
  · have hw := hw.1 hc4
    exact mj_X5_times_14 C h0 mc ms post  _ _ _ _ _ _ _ _ hw hI (by omega) (by omega) (lv_sub hl [] rfl)
  · have hw := hw.2 hc4
    refine lv_aload_n hx hb dX5_times_7 rfl (lv_at hl 1 rfl) ?_
    obtain ⟨fs_8, he_8, hw⟩ := hw
    obtain ⟨v_8, hv_8, hw⟩ := hw
    refine x_get (ci := 5) (C := RX5) (T := TX5) (N := 3) hx hb hg ku_X5 hown hK hI he_8 rfl 0 (by decide) (hg _ kf_X5_7) (fun _ h9 => h9) hv_8 dX5_times_8 ?_
    refine lv_if_ne (tgt := 26) hx hb dX5_times_11 (by decide) (fun hc11 => ?_) (fun hc11 => ?_)
    · have hw := hw.1 hc11
      refine lv_aload_n hx hb dX5_times_26 rfl (lv_at hl 0 rfl) ?_
      obtain ⟨v_27, hv_27, hw⟩ := hw
      refine x_get (ci := 5) (C := RX5) (T := TX5) (N := 3) hx hb hg ku_X5 hown hK hI he_1 rfl 2 (by decide) (hg _ kf_X5_17) (fun _ h9 => h9) hv_27 dX5_times_27 ?_
      refine lv_aload_n hx hb dX5_times_30 rfl (lv_at hl 1 rfl) ?_
      obtain ⟨v_31, hv_31, hw⟩ := hw
      refine x_get (ci := 5) (C := RX5) (T := TX5) (N := 3) hx hb hg ku_X5 hown hK hI he_8 rfl 2 (by decide) (hg _ kf_X5_17) (fun _ h9 => h9) hv_31 dX5_times_31 ?_
      refine lv_iadd hx hb dX5_times_34 ?_
      obtain ⟨hneg35, hw⟩ := hw
      obtain ⟨z_35, hz35⟩ : ∃ z : Nat, ((v_27 + v_31) : Int32).toNatClampNeg = z := ⟨_, rfl⟩
      obtain ⟨hz235, hkc1, hks1, hw⟩ := hw z_35 hz35
      refine x_newi hx hb (hg _ ka_int) hK hI hneg35 hz35 (by omega) (show 0 + 1 ≤ mc by omega) (show 0 + z_35 ≤ ms by omega) dX5_times_35 (fun q_35 H hfr35 hI => ?_)
      have hw := hw q_35 hfr35
      obtain ⟨h_35, eh_35⟩ : ∃ z : xH, z = x_up h0 q_35 (.inl (0, z_35, .inl (fun _ => 0))) := ⟨_, rfl⟩
      rw [← eh_35] at hI
      have hw := hw h_35 eh_35
      have heh_35 : h_35 q_35 = some (.inl (0, z_35, .inl (fun _ => 0))) := by rw [eh_35]; exact x_up_s
      refine lv_astore_n (lv' := [(2, .ref q_35), (0, .ref x0), (1, .ref x1)]) hx hb dX5_times_37 rfl hl (by decide) rfl (fun ls hl => ?_)
      refine lv_iconst (v := 0) hx hb dX5_times_38 (by decide) ?_
      refine lv_istore_n (lv' := [(3, .int 0), (2, .ref q_35), (0, .ref x0), (1, .ref x1)]) hx hb dX5_times_39 rfl hl (by decide) rfl (fun ls hl => ?_)
      obtain ⟨n40, hw⟩ := hw
      refine ml_X5_times_40 C h0 mc ms post _ ?_ n40 _ _ _ _ _ _ _ _ _ _ _ _ hw hI (by omega) (by omega) (lv_sub hl [2, 3, 1, 0] rfl)
      · intro h kc ks x0 x1 x2 H locs ls nc ns hw hI hkc hks hl
        obtain ⟨hkc1, hks1, hw⟩ := hw
        refine x_new (ci := 5) (fs := [.int 0, .null, .int 0]) (C := RX5) (T := TX5) (N := 3) hx hb hg ku_X5 tyX5 tyX5_ok hown (hg _ kl_X5_8) (hg _ kt_X5) (hg _ kn_X5) hK hI rfl (by decide +kernel) (show nc + 1 ≤ mc by omega) (show ns + 3 ≤ ms by omega) dX5_times_139 (fun q_139 H hfr139 hI => ?_)
        have hw := hw q_139 hfr139
        obtain ⟨h_139, eh_139⟩ : ∃ z : xH, z = x_up h q_139 (.inr (5, [.int 0, .null, .int 0])) := ⟨_, rfl⟩
        rw [← eh_139] at hI
        have hw := hw h_139 eh_139
        have heh_139 : h_139 q_139 = some (.inr (5, [.int 0, .null, .int 0])) := by rw [eh_139]; exact x_up_s
        refine lv_dup hx hb dX5_times_142 rfl ?_
        refine lv_aload_n hx hb dX5_times_143 rfl (lv_at hl 0 rfl) ?_
        obtain ⟨fs_144, he_144, hw⟩ := hw
        obtain ⟨v_144, hv_144, hw⟩ := hw
        refine x_get (ci := 5) (C := RX5) (T := TX5) (N := 3) hx hb hg ku_X5 hown hK hI he_144 rfl 0 (by decide) (hg _ kf_X5_7) (fun _ h9 => h9) hv_144 dX5_times_144 ?_
        refine lv_aload_n hx hb dX5_times_147 rfl (lv_at hl 1 rfl) ?_
        obtain ⟨fs_148, he_148, hw⟩ := hw
        obtain ⟨v_148, hv_148, hw⟩ := hw
        refine x_get (ci := 5) (C := RX5) (T := TX5) (N := 3) hx hb hg ku_X5 hown hK hI he_148 rfl 0 (by decide) (hg _ kf_X5_7) (fun _ h9 => h9) hv_148 dX5_times_148 ?_
        refine lv_imul hx hb dX5_times_151 ?_
        refine lv_aload_n hx hb dX5_times_152 rfl (lv_at hl 2 rfl) ?_
        refine x_cv (va_runI (As := [.int (v_144 * v_148), .ref x2]) (rest := [.ref q_139]) ⟨hx, hb, hml, hown, hg⟩ (m_X5_init l G h_139  q_139 (v_144 * v_148) x2 _ hw H.size) (cwI 2 hg (x_gI kk_X5_init) rfl rfl rfl (hg _ kn_X5) (hg _ km_X5_21) (hg _ ki_X5_init) rfl (by decide +kernel) ⟨Nat.le_of_ble_eq_true rfl, Nat.le_of_ble_eq_true rfl⟩) ⟨x_blind, x_pre hI hK⟩ rfl rfl hl.1 rfl (lv_room (Nat.le_of_ble_eq_true rfl)) dX5_times_153 ⟨show nc + 1 + 0 ≤ mc by omega, show ns + 3 + 0 ≤ ms by omega⟩) hI (fun h_153 H locs hw hI => ?_)
        exact x_aret hx hb hr (by first | exact Or.inl ⟨_, rfl⟩ | exact Or.inr ⟨_, rfl⟩) hlocks hI hw (by omega) (by omega) dX5_times_156
    · have hw := hw.2 hc11
      exact mj_X5_times_14 C h0 mc ms post  _ _ _ _ _ _ _ _ hw hI (by omega) (by omega) (lv_sub hl [] rfl)
-- ===== ExactFilter$Rest.init
abbrev rX3_init (mc ms : Nat) : Room := { frames := 4, cells := mc, slots := ms, locals := 102 }
def wp_X3_init (h0 : xH) (mc ms : Nat) (x0 : Nat) (x1 : Nat) (post : xH → Prop) : Prop := ∃ fs_6 : List Value, h0 x1 = some (.inr (5, fs_6)) ∧ ∃ mc_6 ms_6 : Nat, mc_6 ≤ mc ∧ ms_6 ≤ ms ∧ wp_X5_copyOfDigits h0 mc_6 ms_6 x1 (fun (r_6 : Nat) (h_6 : xH) => ∃ fs_9 : List Value, h_6 x0 = some (.inr (3, fs_9)) ∧ 0 < (fs_9 : List Value).length ∧ ∀ h_9 : xH, h_9 = x_up h_6 x0 (.inr (3, (fs_9 : List Value).set 0 (.ref r_6))) → ∃ fs_14 : List Value, h_9 x1 = some (.inr (5, fs_14)) ∧ wp_X5_length h_9  x1 (fun (r_14 : Int32) => 1 < ((fs_9 : List Value).set 0 (.ref r_6) : List Value).length ∧ ∀ h_17 : xH, h_17 = x_up h_9 x0 (.inr (3, ((fs_9 : List Value).set 0 (.ref r_6) : List Value).set 1 (.int r_14))) → post h_17))
set_option maxHeartbeats 4000000 in
set_option maxRecDepth 100000 in
theorem m_X3_init (l : Launch) (G : xG) (h0 : xH) (mc ms : Nat) (x0 : Nat) (x1 : Nat) (post : xH → Prop) (hw : wp_X3_init h0 mc ms x0 x1 post) (sz : Nat) : Met l yX3_init (wu yX3_init cX3_init 2 none) (rX3_init mc ms) (x_Pc G [.ref x0, .ref x1] h0 sz) (x_Qv G h0 sz post) mc ms (x_A h0 sz) := by
  refine Met.ofW (cc := cX3_init) (maxL := 2) (ret := none) (by decide) rfl ?_
  intro p e s m args below meth c s₁ B hml hv
  obtain ⟨rfl, hsz, hR, hK⟩ := hv
  subst hsz
  have C : CX p s m _ meth c G RX3 cX3_init 2 none := ⟨B.exec, B.bytes, B.returns, hml, findClass_of_methodNamed B.named, x_hg (atoms_spec (ws := wu yX3_init cX3_init 2 none) B.pre), B.notSynchronized, hK⟩
  obtain ⟨hx, hb, hr, hml, hown, hg, hlocks, hK⟩ := id C
  have hin : meth.name = "<init>" := (name_of_methodNamed B.named B.method).1
  have hI : x_I G (x_A h0 s.heap.size) s.heap h0 s.heap [] := x_I.start hR
  have hkc : 0 + mc ≤ mc := by omega
  have hks : 0 + ms ≤ ms := by omega
  have hl := lv_entry ([.ref x0, .ref x1]) (n := 2) (Nat.le_of_ble_eq_true rfl)
  rw [lg_entry_eq]
  generalize (lg_sl ([.ref x0, .ref x1]) ++ List.replicate (2 - (lg_sl ([.ref x0, .ref x1])).length) Slot.unset).toArray = ls at hl ⊢
  have hl : lv_has ls 2 [(0, .ref x0), (1, .ref x1)] := hl
  unfold wp_X3_init at hw
  refine lv_aload_n hx hb dX3_init_0 rfl (lv_at hl 0 rfl) ?_
  refine W.objInit hx hb hown (hg _ km_X3_1) (hg _ ki_java_lang_Object__init____V) (hg _ kk_java_lang_Object__init____V) rfl (by rw [hml]; exact hl.1) rfl dX3_init_1 (Nat.le_of_ble_eq_true rfl) (Nat.le_of_ble_eq_true rfl) ?_
  refine W.eq (g2 := F0 m 4 ls []) rfl ?_
  refine lv_aload_n hx hb dX3_init_4 rfl (lv_at hl 0 rfl) ?_
  refine lv_aload_n hx hb dX3_init_5 rfl (lv_at hl 1 rfl) ?_
  obtain ⟨fs_6, he_6, hw⟩ := hw
  obtain ⟨mc_6, ms_6, hkc1, hks1, hw⟩ := hw
  refine x_cr (va_runV (As := []) (rest := [.ref x0]) ⟨hx, hb, hml, hown, hg⟩ (m_X5_copyOfDigits l G h0 mc_6 ms_6 x1 _ hw s.heap.size) (cwV 0 hg (x_gV km_X3_7 ki_X5_copyOfDigits kz_X5_X5_copyOfDigits kn_X5 kk_X5_copyOfDigits) rfl rfl rfl (by decide +kernel) ⟨Nat.le_of_ble_eq_true rfl, Nat.le_of_ble_eq_true rfl⟩) ⟨x_blind, x_recv hI hK he_6 rfl rfl, x_pre hI hK⟩ rfl rfl hl.1 rfl (lv_room (Nat.le_of_ble_eq_true rfl)) dX3_init_6 ⟨show 0 + mc_6 ≤ mc by omega, show 0 + ms_6 ≤ ms by omega⟩) hI (fun r_6 h_6 H locs hw hI => ?_)
  obtain ⟨fs_9, he_9, hw⟩ := hw
  obtain ⟨hlen9, hw⟩ := hw
  refine x_putF (ci := 3) (v := .ref r_6) (ty := .array .int) (C := RX3) (T := TX3) (N := 2) hx hb hg ku_X3 tyX3 tyX3_ok nmX3 hown hK hI he_9 rfl 0 (by decide) (hg _ kf_X3_13) (fun _ h9 => h9) rfl hin rfl (by decide +kernel) rfl rfl hlen9 dX3_init_9 (fun H locs hI => ?_)
  have hI : x_I G (x_A h0 s.heap.size) s.heap (x_up h_6 x0 (.inr (3, (fs_9 : List Value).set 0 (.ref r_6)))) H locs := hI
  obtain ⟨h_9, eh_9⟩ : ∃ z : xH, z = x_up h_6 x0 (.inr (3, (fs_9 : List Value).set 0 (.ref r_6))) := ⟨_, rfl⟩
  rw [← eh_9] at hI
  have hw := hw h_9 eh_9
  have heh_9 : h_9 x0 = some (.inr (3, (fs_9 : List Value).set 0 (.ref r_6))) := by rw [eh_9]; exact x_up_s
  refine lv_aload_n hx hb dX3_init_12 rfl (lv_at hl 0 rfl) ?_
  refine lv_aload_n hx hb dX3_init_13 rfl (lv_at hl 1 rfl) ?_
  obtain ⟨fs_14, he_14, hw⟩ := hw
  refine x_ci (va_runV (As := []) (rest := [.ref x0]) ⟨hx, hb, hml, hown, hg⟩ (m_X5_length l G h_9  x1 _ hw H.size) (cwV 0 hg (x_gV km_X3_19 ki_X5_length kz_X5_X5_length kn_X5 kk_X5_length) rfl rfl rfl (by decide +kernel) ⟨Nat.le_of_ble_eq_true rfl, Nat.le_of_ble_eq_true rfl⟩) ⟨x_blind, x_recv hI hK he_14 rfl rfl, x_pre hI hK⟩ rfl rfl hl.1 rfl (lv_room (Nat.le_of_ble_eq_true rfl)) dX3_init_14 ⟨show 0 + mc_6 + 0 ≤ mc by omega, show 0 + ms_6 + 0 ≤ ms by omega⟩) hI (fun r_14 h_14 H locs hw hI => ?_)
  obtain ⟨eh_14, hw⟩ := hw
  rw [eh_14] at hI
  obtain ⟨hlen17, hw⟩ := hw
  refine x_put (ci := 3) (v := .int r_14) (ty := .int) (C := RX3) (T := TX3) (N := 2) hx hb hg ku_X3 tyX3 tyX3_ok nmX3 hown hK hI heh_9 rfl 1 (by decide) (hg _ kf_X3_23) (fun _ h9 => h9) rfl (by decide +kernel) rfl rfl hlen17 dX3_init_17 (fun H locs hI => ?_)
  have hI : x_I G (x_A h0 s.heap.size) s.heap (x_up h_9 x0 (.inr (3, ((fs_9 : List Value).set 0 (.ref r_6) : List Value).set 1 (.int r_14)))) H locs := hI
  obtain ⟨h_17, eh_17⟩ : ∃ z : xH, z = x_up h_9 x0 (.inr (3, ((fs_9 : List Value).set 0 (.ref r_6) : List Value).set 1 (.int r_14))) := ⟨_, rfl⟩
  rw [← eh_17] at hI
  have hw := hw h_17 eh_17
  have heh_17 : h_17 x0 = some (.inr (3, ((fs_9 : List Value).set 0 (.ref r_6) : List Value).set 1 (.int r_14))) := by rw [eh_17]; exact x_up_s
  exact x_vret hx hb hr hlocks hI hw (by omega) (by omega) dX3_init_20
-- ===== ExactFilter$Rest.isNothing
abbrev rX3_isNothing  : Room := { frames := 0, cells := 0, slots := 0, locals := 0 }
def wj_X3_isNothing_12 (h0 : xH) (post : Int32 → Prop)  (s0 : Int32) : Prop := narrow .boolean (.int s0) = .int s0 ∧ post s0
def wp_X3_isNothing (h0 : xH)  (x0 : Nat) (post : Int32 → Prop) : Prop := ∃ fs_1 : List Value, h0 x0 = some (.inr (3, fs_1)) ∧ ∃ v_1 : Int32, fs_1[1]? = some (.int v_1) ∧ (¬ v_1 = 0 → wj_X3_isNothing_12 h0 post  0) ∧ (v_1 = 0 → wj_X3_isNothing_12 h0 post  1)
set_option maxHeartbeats 4000000 in
set_option maxRecDepth 100000 in
theorem mj_X3_isNothing_12 (C : CX p s m args meth c G RX3 cX3_isNothing 1 (some .boolean)) (h0 : xH) (post : Int32 → Prop) 
    
    (s0 : Int32) (H : Heap) (locs : List Loc) (ls : Array Slot) (nc ns : Nat) (hw : wj_X3_isNothing_12 h0 post  s0) (hI : x_I G (x_A h0 s.heap.size) s.heap h0 H locs) (hkc : nc + 0 ≤ 0) (hks : ns + 0 ≤ 0) (hl : lv_has ls 1 []) : W p l e (rX3_isNothing) s m args below meth c H locs nc ns (MQ below (x_Qi G h0 s.heap.size (fun r9 h9 => h9 = h0 ∧ post r9)) args s 0 0 (x_A h0 s.heap.size)) (F0 m 12 ls [.int s0]) := by
  obtain ⟨hx, hb, hr, hml, hown, hg, hlocks, hK⟩ := id C
  unfold wj_X3_isNothing_12 at hw
  exact x_zret hx hb hr hw.1 hlocks hI ⟨rfl, hw.2⟩ (by omega) (by omega) dX3_isNothing_12
set_option maxHeartbeats 4000000 in
set_option maxRecDepth 100000 in
theorem m_X3_isNothing (l : Launch) (G : xG) (h0 : xH)  (x0 : Nat) (post : Int32 → Prop) (hw : wp_X3_isNothing h0  x0 post) (sz : Nat) : Met l yX3_isNothing (wu yX3_isNothing cX3_isNothing 1 (some .boolean)) (rX3_isNothing) (x_Pc G [.ref x0] h0 sz) (x_Qi G h0 sz (fun r9 h9 => h9 = h0 ∧ post r9)) 0 0 (x_A h0 sz) := by
  refine Met.ofW (cc := cX3_isNothing) (maxL := 1) (ret := (some .boolean)) (by decide) rfl ?_
  intro p e s m args below meth c s₁ B hml hv
  obtain ⟨rfl, hsz, hR, hK⟩ := hv
  subst hsz
  have C : CX p s m _ meth c G RX3 cX3_isNothing 1 (some .boolean) := ⟨B.exec, B.bytes, B.returns, hml, findClass_of_methodNamed B.named, x_hg (atoms_spec (ws := wu yX3_isNothing cX3_isNothing 1 (some .boolean)) B.pre), B.notSynchronized, hK⟩
  obtain ⟨hx, hb, hr, hml, hown, hg, hlocks, hK⟩ := id C
  have hI : x_I G (x_A h0 s.heap.size) s.heap h0 s.heap [] := x_I.start hR
  have hkc : 0 + 0 ≤ 0 := by omega
  have hks : 0 + 0 ≤ 0 := by omega
  have hl := lv_entry ([.ref x0]) (n := 1) (Nat.le_of_ble_eq_true rfl)
  rw [lg_entry_eq]
  generalize (lg_sl ([.ref x0]) ++ List.replicate (1 - (lg_sl ([.ref x0])).length) Slot.unset).toArray = ls at hl ⊢
  have hl : lv_has ls 1 [(0, .ref x0)] := hl
  unfold wp_X3_isNothing at hw
  refine lv_aload_n hx hb dX3_isNothing_0 rfl (lv_at hl 0 rfl) ?_
  obtain ⟨fs_1, he_1, hw⟩ := hw
  obtain ⟨v_1, hv_1, hw⟩ := hw
  refine x_get (ci := 3) (C := RX3) (T := TX3) (N := 2) hx hb hg ku_X3 hown hK hI he_1 rfl 1 (by decide) (hg _ kf_X3_23) (fun _ h9 => h9) hv_1 dX3_isNothing_1 ?_
  refine lv_if_ne (tgt := 11) hx hb dX3_isNothing_4 (by decide) (fun hc4 => ?_) (fun hc4 => ?_)
  · have hw := hw.1 hc4
    refine lv_iconst (v := 0) hx hb dX3_isNothing_11 (by decide) ?_
    exact mj_X3_isNothing_12 C h0 post  _ _ _ _ _ _ hw hI (by omega) (by omega) (lv_sub hl [] rfl)
  · have hw := hw.2 hc4
    refine lv_iconst (v := 1) hx hb dX3_isNothing_7 (by decide) ?_
    refine lv_goto (tgt := 12) hx hb dX3_isNothing_8 (by decide) ?_
    exact mj_X3_isNothing_12 C h0 post  _ _ _ _ _ _ hw hI (by omega) (by omega) (lv_sub hl [] rfl)
-- ===== ExactFilter$Rest.whole
abbrev rX3_whole (mc ms : Nat) : Room := { frames := 2, cells := mc, slots := ms, locals := 43 }
def wp_X3_whole (h0 : xH) (mc ms : Nat) (x0 : Nat) (post : Nat → xH → Prop) : Prop := 1 ≤ mc ∧ 3 ≤ ms ∧ ∀ q_0 : Nat, x_fresh h0 q_0 → ∀ h_0 : xH, h_0 = x_up h0 q_0 (.inr (5, [.int 0, .null, .int 0])) → ∃ fs_6 : List Value, h_0 x0 = some (.inr (3, fs_6)) ∧ ∃ v_6 : Nat, fs_6[0]? = some (.ref v_6) ∧ wp_X5_init h_0  q_0 1 v_6 (fun (h_9 : xH) => post q_0 h_9)
set_option maxHeartbeats 4000000 in
set_option maxRecDepth 100000 in
theorem m_X3_whole (l : Launch) (G : xG) (h0 : xH) (mc ms : Nat) (x0 : Nat) (post : Nat → xH → Prop) (hw : wp_X3_whole h0 mc ms x0 post) (sz : Nat) : Met l yX3_whole (wu yX3_whole cX3_whole 1 (some (.object "ExactFilter$Whole"))) (rX3_whole mc ms) (x_Pc G [.ref x0] h0 sz) (x_Qr G h0 sz post) mc ms (x_A h0 sz) := by
  refine Met.ofW (cc := cX3_whole) (maxL := 1) (ret := (some (.object "ExactFilter$Whole"))) (by decide) rfl ?_
  intro p e s m args below meth c s₁ B hml hv
  obtain ⟨rfl, hsz, hR, hK⟩ := hv
  subst hsz
  have C : CX p s m _ meth c G RX3 cX3_whole 1 (some (.object "ExactFilter$Whole")) := ⟨B.exec, B.bytes, B.returns, hml, findClass_of_methodNamed B.named, x_hg (atoms_spec (ws := wu yX3_whole cX3_whole 1 (some (.object "ExactFilter$Whole"))) B.pre), B.notSynchronized, hK⟩
  obtain ⟨hx, hb, hr, hml, hown, hg, hlocks, hK⟩ := id C
  have hI : x_I G (x_A h0 s.heap.size) s.heap h0 s.heap [] := x_I.start hR
  have hkc : 0 + mc ≤ mc := by omega
  have hks : 0 + ms ≤ ms := by omega
  have hl := lv_entry ([.ref x0]) (n := 1) (Nat.le_of_ble_eq_true rfl)
  rw [lg_entry_eq]
  generalize (lg_sl ([.ref x0]) ++ List.replicate (1 - (lg_sl ([.ref x0])).length) Slot.unset).toArray = ls at hl ⊢
  have hl : lv_has ls 1 [(0, .ref x0)] := hl
  unfold wp_X3_whole at hw
  obtain ⟨hkc1, hks1, hw⟩ := hw
  refine x_new (ci := 5) (fs := [.int 0, .null, .int 0]) (C := RX5) (T := TX5) (N := 3) hx hb hg ku_X5 tyX5 tyX5_ok hown (hg _ kl_X3_8) (hg _ kt_X5) (hg _ kn_X5) hK hI rfl (by decide +kernel) (show 0 + 1 ≤ mc by omega) (show 0 + 3 ≤ ms by omega) dX3_whole_0 (fun q_0 H hfr0 hI => ?_)
  have hw := hw q_0 hfr0
  obtain ⟨h_0, eh_0⟩ : ∃ z : xH, z = x_up h0 q_0 (.inr (5, [.int 0, .null, .int 0])) := ⟨_, rfl⟩
  rw [← eh_0] at hI
  have hw := hw h_0 eh_0
  have heh_0 : h_0 q_0 = some (.inr (5, [.int 0, .null, .int 0])) := by rw [eh_0]; exact x_up_s
  refine lv_dup hx hb dX3_whole_3 rfl ?_
  refine lv_iconst (v := 1) hx hb dX3_whole_4 (by decide) ?_
  refine lv_aload_n hx hb dX3_whole_5 rfl (lv_at hl 0 rfl) ?_
  obtain ⟨fs_6, he_6, hw⟩ := hw
  obtain ⟨v_6, hv_6, hw⟩ := hw
  refine x_get (ci := 3) (C := RX3) (T := TX3) (N := 2) hx hb hg ku_X3 hown hK hI he_6 rfl 0 (by decide) (hg _ kf_X3_13) (fun _ h9 => h9) hv_6 dX3_whole_6 ?_
  refine x_cv (va_runI (As := [.int 1, .ref v_6]) (rest := [.ref q_0]) ⟨hx, hb, hml, hown, hg⟩ (m_X5_init l G h_0  q_0 1 v_6 _ hw H.size) (cwI 2 hg (x_gI kk_X5_init) rfl rfl rfl (hg _ kn_X5) (hg _ km_X3_26) (hg _ ki_X5_init) rfl (by decide +kernel) ⟨Nat.le_of_ble_eq_true rfl, Nat.le_of_ble_eq_true rfl⟩) ⟨x_blind, x_pre hI hK⟩ rfl rfl hl.1 rfl (lv_room (Nat.le_of_ble_eq_true rfl)) dX3_whole_9 ⟨show 0 + 1 + 0 ≤ mc by omega, show 0 + 3 + 0 ≤ ms by omega⟩) hI (fun h_9 H locs hw hI => ?_)
  exact x_aret hx hb hr (by first | exact Or.inl ⟨_, rfl⟩ | exact Or.inr ⟨_, rfl⟩) hlocks hI hw (by omega) (by omega) dX3_whole_12
-- ===== ExactFilter$Rest.digit
abbrev rX3_digit  : Room := { frames := 0, cells := 0, slots := 0, locals := 0 }
def wj_X3_digit_22 (h0 : xH) (post : Int32 → Prop)  (s0 : Int32) : Prop := post s0
def wj_X3_digit_21 (h0 : xH) (post : Int32 → Prop)   : Prop := wj_X3_digit_22 h0 post  0
def wp_X3_digit (h0 : xH)  (x0 : Nat) (x1 : Int32) (post : Int32 → Prop) : Prop := (x1 < 0 → wj_X3_digit_21 h0 post  ) ∧ (¬ x1 < 0 → ∃ fs_6 : List Value, h0 x0 = some (.inr (3, fs_6)) ∧ ∃ v_6 : Int32, fs_6[1]? = some (.int v_6) ∧ (v_6 ≤ x1 → wj_X3_digit_21 h0 post  ) ∧ (¬ v_6 ≤ x1 → ∃ v_13 : Nat, fs_6[0]? = some (.ref v_13) ∧ ∃ (n_17 : Nat) (f_17 : Nat → Int32), h0 v_13 = some (.inl (0, n_17, .inl f_17)) ∧ vp_in x1 n_17 ∧ wj_X3_digit_22 h0 post  (f_17 (x1 : Int32).toNatClampNeg)))
set_option maxHeartbeats 4000000 in
set_option maxRecDepth 100000 in
theorem mj_X3_digit_22 (C : CX p s m args meth c G RX3 cX3_digit 2 (some .int)) (h0 : xH) (post : Int32 → Prop) 
    
    (s0 : Int32) (H : Heap) (locs : List Loc) (ls : Array Slot) (nc ns : Nat) (hw : wj_X3_digit_22 h0 post  s0) (hI : x_I G (x_A h0 s.heap.size) s.heap h0 H locs) (hkc : nc + 0 ≤ 0) (hks : ns + 0 ≤ 0) (hl : lv_has ls 2 []) : W p l e (rX3_digit) s m args below meth c H locs nc ns (MQ below (x_Qi G h0 s.heap.size (fun r9 h9 => h9 = h0 ∧ post r9)) args s 0 0 (x_A h0 s.heap.size)) (F0 m 22 ls [.int s0]) := by
  obtain ⟨hx, hb, hr, hml, hown, hg, hlocks, hK⟩ := id C
  unfold wj_X3_digit_22 at hw
  exact x_iret hx hb hr hlocks hI ⟨rfl, hw⟩ (by omega) (by omega) dX3_digit_22
set_option maxHeartbeats 4000000 in
set_option maxRecDepth 100000 in
theorem mj_X3_digit_21 (C : CX p s m args meth c G RX3 cX3_digit 2 (some .int)) (h0 : xH) (post : Int32 → Prop) 
    
     (H : Heap) (locs : List Loc) (ls : Array Slot) (nc ns : Nat) (hw : wj_X3_digit_21 h0 post  ) (hI : x_I G (x_A h0 s.heap.size) s.heap h0 H locs) (hkc : nc + 0 ≤ 0) (hks : ns + 0 ≤ 0) (hl : lv_has ls 2 []) : W p l e (rX3_digit) s m args below meth c H locs nc ns (MQ below (x_Qi G h0 s.heap.size (fun r9 h9 => h9 = h0 ∧ post r9)) args s 0 0 (x_A h0 s.heap.size)) (F0 m 21 ls []) := by
  obtain ⟨hx, hb, hr, hml, hown, hg, hlocks, hK⟩ := id C
  unfold wj_X3_digit_21 at hw
  refine lv_iconst (v := 0) hx hb dX3_digit_21 (by decide) ?_
  exact mj_X3_digit_22 C h0 post  _ _ _ _ _ _ hw hI (by omega) (by omega) (lv_sub hl [] rfl)
set_option maxHeartbeats 4000000 in
set_option maxRecDepth 100000 in
theorem m_X3_digit (l : Launch) (G : xG) (h0 : xH)  (x0 : Nat) (x1 : Int32) (post : Int32 → Prop) (hw : wp_X3_digit h0  x0 x1 post) (sz : Nat) : Met l yX3_digit (wu yX3_digit cX3_digit 2 (some .int)) (rX3_digit) (x_Pc G [.ref x0, .int x1] h0 sz) (x_Qi G h0 sz (fun r9 h9 => h9 = h0 ∧ post r9)) 0 0 (x_A h0 sz) := by
  refine Met.ofW (cc := cX3_digit) (maxL := 2) (ret := (some .int)) (by decide) rfl ?_
  intro p e s m args below meth c s₁ B hml hv
  obtain ⟨rfl, hsz, hR, hK⟩ := hv
  subst hsz
  have C : CX p s m _ meth c G RX3 cX3_digit 2 (some .int) := ⟨B.exec, B.bytes, B.returns, hml, findClass_of_methodNamed B.named, x_hg (atoms_spec (ws := wu yX3_digit cX3_digit 2 (some .int)) B.pre), B.notSynchronized, hK⟩
  obtain ⟨hx, hb, hr, hml, hown, hg, hlocks, hK⟩ := id C
  have hI : x_I G (x_A h0 s.heap.size) s.heap h0 s.heap [] := x_I.start hR
  have hkc : 0 + 0 ≤ 0 := by omega
  have hks : 0 + 0 ≤ 0 := by omega
  have hl := lv_entry ([.ref x0, .int x1]) (n := 2) (Nat.le_of_ble_eq_true rfl)
  rw [lg_entry_eq]
  generalize (lg_sl ([.ref x0, .int x1]) ++ List.replicate (2 - (lg_sl ([.ref x0, .int x1])).length) Slot.unset).toArray = ls at hl ⊢
  have hl : lv_has ls 2 [(0, .ref x0), (1, .int x1)] := hl
  unfold wp_X3_digit at hw
  refine lv_iload_n hx hb dX3_digit_0 rfl (lv_at hl 1 rfl) ?_
  refine lv_if_lt (tgt := 21) hx hb dX3_digit_1 (by decide) (fun hc1 => ?_) (fun hc1 => ?_)
  · have hw := hw.1 hc1
    exact mj_X3_digit_21 C h0 post   _ _ _ _ _ hw hI (by omega) (by omega) (lv_sub hl [] rfl)
  · have hw := hw.2 hc1
    refine lv_iload_n hx hb dX3_digit_4 rfl (lv_at hl 1 rfl) ?_
    refine lv_aload_n hx hb dX3_digit_5 rfl (lv_at hl 0 rfl) ?_
    obtain ⟨fs_6, he_6, hw⟩ := hw
    obtain ⟨v_6, hv_6, hw⟩ := hw
    refine x_get (ci := 3) (C := RX3) (T := TX3) (N := 2) hx hb hg ku_X3 hown hK hI he_6 rfl 1 (by decide) (hg _ kf_X3_23) (fun _ h9 => h9) hv_6 dX3_digit_6 ?_
    refine lv_icmp_ge (tgt := 21) hx hb dX3_digit_9 (by decide) (fun hc9 => ?_) (fun hc9 => ?_)
    · have hw := hw.1 hc9
      exact mj_X3_digit_21 C h0 post   _ _ _ _ _ hw hI (by omega) (by omega) (lv_sub hl [] rfl)
    · have hw := hw.2 hc9
      refine lv_aload_n hx hb dX3_digit_12 rfl (lv_at hl 0 rfl) ?_
      obtain ⟨v_13, hv_13, hw⟩ := hw
      refine x_get (ci := 3) (C := RX3) (T := TX3) (N := 2) hx hb hg ku_X3 hown hK hI he_6 rfl 0 (by decide) (hg _ kf_X3_13) (fun _ h9 => h9) hv_13 dX3_digit_13 ?_
      refine lv_iload_n hx hb dX3_digit_16 rfl (lv_at hl 1 rfl) ?_
      obtain ⟨n_17, f_17, he_17, hw⟩ := hw
      obtain ⟨hi17, hw⟩ := hw
      refine x_iald hx hb hK hI he_17 hi17 dX3_digit_17 ?_
      refine lv_goto (tgt := 22) hx hb dX3_digit_18 (by decide) ?_
      exact mj_X3_digit_22 C h0 post  _ _ _ _ _ _ hw hI (by omega) (by omega) (lv_sub hl [] rfl)
-- ===== ExactFilter$Rest.head
abbrev rX3_head  : Room := { frames := 1, cells := 0, slots := 0, locals := 21 }
def wp_X3_head (h0 : xH)  (x0 : Nat) (post : Int64 → Prop) : Prop := ∃ fs_2 : List Value, h0 x0 = some (.inr (3, fs_2)) ∧ ∃ v_2 : Int32, fs_2[1]? = some (.int v_2) ∧ wp_X3_digit h0  x0 (v_2 - 1) (fun (r_7 : Int32) => wp_X3_digit h0  x0 (v_2 - 2) (fun (r_21 : Int32) => post ((((r_7 : Int32).toInt64) <<< ((16 : Int32).toInt64 &&& 63)) + ((r_21 : Int32).toInt64))))
set_option maxHeartbeats 4000000 in
set_option maxRecDepth 100000 in
theorem m_X3_head (l : Launch) (G : xG) (h0 : xH)  (x0 : Nat) (post : Int64 → Prop) (hw : wp_X3_head h0  x0 post) (sz : Nat) : Met l yX3_head (wu yX3_head cX3_head 1 (some .long)) (rX3_head) (x_Pc G [.ref x0] h0 sz) (x_Ql G h0 sz (fun r9 h9 => h9 = h0 ∧ post r9)) 0 0 (x_A h0 sz) := by
  refine Met.ofW (cc := cX3_head) (maxL := 1) (ret := (some .long)) (by decide) rfl ?_
  intro p e s m args below meth c s₁ B hml hv
  obtain ⟨rfl, hsz, hR, hK⟩ := hv
  subst hsz
  have C : CX p s m _ meth c G RX3 cX3_head 1 (some .long) := ⟨B.exec, B.bytes, B.returns, hml, findClass_of_methodNamed B.named, x_hg (atoms_spec (ws := wu yX3_head cX3_head 1 (some .long)) B.pre), B.notSynchronized, hK⟩
  obtain ⟨hx, hb, hr, hml, hown, hg, hlocks, hK⟩ := id C
  have hI : x_I G (x_A h0 s.heap.size) s.heap h0 s.heap [] := x_I.start hR
  have hkc : 0 + 0 ≤ 0 := by omega
  have hks : 0 + 0 ≤ 0 := by omega
  have hl := lv_entry ([.ref x0]) (n := 1) (Nat.le_of_ble_eq_true rfl)
  rw [lg_entry_eq]
  generalize (lg_sl ([.ref x0]) ++ List.replicate (1 - (lg_sl ([.ref x0])).length) Slot.unset).toArray = ls at hl ⊢
  have hl : lv_has ls 1 [(0, .ref x0)] := hl
  unfold wp_X3_head at hw
  refine lv_aload_n hx hb dX3_head_0 rfl (lv_at hl 0 rfl) ?_
  refine lv_aload_n hx hb dX3_head_1 rfl (lv_at hl 0 rfl) ?_
  obtain ⟨fs_2, he_2, hw⟩ := hw
  obtain ⟨v_2, hv_2, hw⟩ := hw
  refine x_get (ci := 3) (C := RX3) (T := TX3) (N := 2) hx hb hg ku_X3 hown hK hI he_2 rfl 1 (by decide) (hg _ kf_X3_23) (fun _ h9 => h9) hv_2 dX3_head_2 ?_
  refine lv_iconst (v := 1) hx hb dX3_head_5 (by decide) ?_
  refine lv_isub hx hb dX3_head_6 ?_
  refine x_ci (va_runV (As := [.int (v_2 - 1)]) (rest := []) ⟨hx, hb, hml, hown, hg⟩ (m_X3_digit l G h0  x0 (v_2 - 1) _ hw s.heap.size) (cwV 1 hg (x_gV km_X3_45 ki_X3_digit kz_X3_X3_digit kn_X3 kk_X3_digit) rfl rfl rfl (by decide +kernel) ⟨Nat.le_of_ble_eq_true rfl, Nat.le_of_ble_eq_true rfl⟩) ⟨x_blind, x_recv hI hK he_2 rfl rfl, x_pre hI hK⟩ rfl rfl hl.1 rfl (lv_room (Nat.le_of_ble_eq_true rfl)) dX3_head_7 ⟨show 0 + 0 ≤ 0 by omega, show 0 + 0 ≤ 0 by omega⟩) hI (fun r_7 h_7 H locs hw hI => ?_)
  obtain ⟨eh_7, hw⟩ := hw
  rw [eh_7] at hI
  refine lv_i2l (v := (r_7 : Int32).toInt64) hx hb dX3_head_10 rfl ?_
  refine lv_bipush (v := 16) hx hb dX3_head_11 (by decide) ?_
  refine lv_lshl (v := (((r_7 : Int32).toInt64) <<< ((16 : Int32).toInt64 &&& 63))) hx hb dX3_head_13 rfl ?_
  refine lv_aload_n hx hb dX3_head_14 rfl (lv_at hl 0 rfl) ?_
  refine lv_aload_n hx hb dX3_head_15 rfl (lv_at hl 0 rfl) ?_
  refine x_get (ci := 3) (C := RX3) (T := TX3) (N := 2) hx hb hg ku_X3 hown hK hI he_2 rfl 1 (by decide) (hg _ kf_X3_23) (fun _ h9 => h9) hv_2 dX3_head_16 ?_
  refine lv_iconst (v := 2) hx hb dX3_head_19 (by decide) ?_
  refine lv_isub hx hb dX3_head_20 ?_
  refine x_ci (va_runV (As := [.int (v_2 - 2)]) (rest := [.long (((r_7 : Int32).toInt64) <<< ((16 : Int32).toInt64 &&& 63))]) ⟨hx, hb, hml, hown, hg⟩ (m_X3_digit l G h0  x0 (v_2 - 2) _ hw H.size) (cwV 1 hg (x_gV km_X3_45 ki_X3_digit kz_X3_X3_digit kn_X3 kk_X3_digit) rfl rfl rfl (by decide +kernel) ⟨Nat.le_of_ble_eq_true rfl, Nat.le_of_ble_eq_true rfl⟩) ⟨x_blind, x_recv hI hK he_2 rfl rfl, x_pre hI hK⟩ rfl rfl hl.1 rfl (lv_room (Nat.le_of_ble_eq_true rfl)) dX3_head_21 ⟨show 0 + 0 + 0 ≤ 0 by omega, show 0 + 0 + 0 ≤ 0 by omega⟩) hI (fun r_21 h_21 H locs hw hI => ?_)
  obtain ⟨eh_21, hw⟩ := hw
  rw [eh_21] at hI
  refine lv_i2l (v := (r_21 : Int32).toInt64) hx hb dX3_head_24 rfl ?_
  refine lv_ladd hx hb dX3_head_25 ?_
  exact x_lret hx hb hr hlocks hI ⟨rfl, hw⟩ (by omega) (by omega) dX3_head_26
-- ===== ExactFilter$Rest.headBelow
abbrev rX3_headBelow  : Room := { frames := 1, cells := 0, slots := 0, locals := 21 }
def wp_X3_headBelow (h0 : xH)  (x0 : Nat) (x1 : Int32) (post : Int64 → Prop) : Prop := ∃ fs_2 : List Value, h0 x0 = some (.inr (3, fs_2)) ∧ wp_X3_digit h0  x0 x1 (fun (r_2 : Int32) => wp_X3_digit h0  x0 (x1 - 1) (fun (r_13 : Int32) => ∀ (x2_18 : Int64), x2_18 = ((((r_2 : Int32).toInt64) <<< ((16 : Int32).toInt64 &&& 63)) + ((r_13 : Int32).toInt64)) → wp_X3_digit h0  x0 (x1 - 2) (fun (r_27 : Int32) => post ((x2_18 <<< ((16 : Int32).toInt64 &&& 63)) + ((r_27 : Int32).toInt64)))))
set_option maxHeartbeats 4000000 in
set_option maxRecDepth 100000 in
theorem m_X3_headBelow (l : Launch) (G : xG) (h0 : xH)  (x0 : Nat) (x1 : Int32) (post : Int64 → Prop) (hw : wp_X3_headBelow h0  x0 x1 post) (sz : Nat) : Met l yX3_headBelow (wu yX3_headBelow cX3_headBelow 4 (some .long)) (rX3_headBelow) (x_Pc G [.ref x0, .int x1] h0 sz) (x_Ql G h0 sz (fun r9 h9 => h9 = h0 ∧ post r9)) 0 0 (x_A h0 sz) := by
  refine Met.ofW (cc := cX3_headBelow) (maxL := 4) (ret := (some .long)) (by decide) rfl ?_
  intro p e s m args below meth c s₁ B hml hv
  obtain ⟨rfl, hsz, hR, hK⟩ := hv
  subst hsz
  have C : CX p s m _ meth c G RX3 cX3_headBelow 4 (some .long) := ⟨B.exec, B.bytes, B.returns, hml, findClass_of_methodNamed B.named, x_hg (atoms_spec (ws := wu yX3_headBelow cX3_headBelow 4 (some .long)) B.pre), B.notSynchronized, hK⟩
  obtain ⟨hx, hb, hr, hml, hown, hg, hlocks, hK⟩ := id C
  have hI : x_I G (x_A h0 s.heap.size) s.heap h0 s.heap [] := x_I.start hR
  have hkc : 0 + 0 ≤ 0 := by omega
  have hks : 0 + 0 ≤ 0 := by omega
  have hl := lv_entry ([.ref x0, .int x1]) (n := 4) (Nat.le_of_ble_eq_true rfl)
  rw [lg_entry_eq]
  generalize (lg_sl ([.ref x0, .int x1]) ++ List.replicate (4 - (lg_sl ([.ref x0, .int x1])).length) Slot.unset).toArray = ls at hl ⊢
  have hl : lv_has ls 4 [(0, .ref x0), (1, .int x1)] := hl
  unfold wp_X3_headBelow at hw
  refine lv_aload_n hx hb dX3_headBelow_0 rfl (lv_at hl 0 rfl) ?_
  refine lv_iload_n hx hb dX3_headBelow_1 rfl (lv_at hl 1 rfl) ?_
  obtain ⟨fs_2, he_2, hw⟩ := hw
  refine x_ci (va_runV (As := [.int x1]) (rest := []) ⟨hx, hb, hml, hown, hg⟩ (m_X3_digit l G h0  x0 x1 _ hw s.heap.size) (cwV 1 hg (x_gV km_X3_45 ki_X3_digit kz_X3_X3_digit kn_X3 kk_X3_digit) rfl rfl rfl (by decide +kernel) ⟨Nat.le_of_ble_eq_true rfl, Nat.le_of_ble_eq_true rfl⟩) ⟨x_blind, x_recv hI hK he_2 rfl rfl, x_pre hI hK⟩ rfl rfl hl.1 rfl (lv_room (Nat.le_of_ble_eq_true rfl)) dX3_headBelow_2 ⟨show 0 + 0 ≤ 0 by omega, show 0 + 0 ≤ 0 by omega⟩) hI (fun r_2 h_2 H locs hw hI => ?_)
  obtain ⟨eh_2, hw⟩ := hw
  rw [eh_2] at hI
  refine lv_i2l (v := (r_2 : Int32).toInt64) hx hb dX3_headBelow_5 rfl ?_
  refine lv_bipush (v := 16) hx hb dX3_headBelow_6 (by decide) ?_
  refine lv_lshl (v := (((r_2 : Int32).toInt64) <<< ((16 : Int32).toInt64 &&& 63))) hx hb dX3_headBelow_8 rfl ?_
  refine lv_aload_n hx hb dX3_headBelow_9 rfl (lv_at hl 0 rfl) ?_
  refine lv_iload_n hx hb dX3_headBelow_10 rfl (lv_at hl 1 rfl) ?_
  refine lv_iconst (v := 1) hx hb dX3_headBelow_11 (by decide) ?_
  refine lv_isub hx hb dX3_headBelow_12 ?_
  refine x_ci (va_runV (As := [.int (x1 - 1)]) (rest := [.long (((r_2 : Int32).toInt64) <<< ((16 : Int32).toInt64 &&& 63))]) ⟨hx, hb, hml, hown, hg⟩ (m_X3_digit l G h0  x0 (x1 - 1) _ hw H.size) (cwV 1 hg (x_gV km_X3_45 ki_X3_digit kz_X3_X3_digit kn_X3 kk_X3_digit) rfl rfl rfl (by decide +kernel) ⟨Nat.le_of_ble_eq_true rfl, Nat.le_of_ble_eq_true rfl⟩) ⟨x_blind, x_recv hI hK he_2 rfl rfl, x_pre hI hK⟩ rfl rfl hl.1 rfl (lv_room (Nat.le_of_ble_eq_true rfl)) dX3_headBelow_13 ⟨show 0 + 0 + 0 ≤ 0 by omega, show 0 + 0 + 0 ≤ 0 by omega⟩) hI (fun r_13 h_13 H locs hw hI => ?_)
  obtain ⟨eh_13, hw⟩ := hw
  rw [eh_13] at hI
  refine lv_i2l (v := (r_13 : Int32).toInt64) hx hb dX3_headBelow_16 rfl ?_
  refine lv_ladd hx hb dX3_headBelow_17 ?_
  refine lv_topl (fun x2_18 ex2_18 => ?_)
  have hw := hw x2_18 ex2_18
  refine lv_lstore_n (lv' := [(2, .long x2_18), (0, .ref x0), (1, .int x1)]) hx hb dX3_headBelow_18 rfl hl (by decide) rfl (fun ls hl => ?_)
  refine lv_lload_n hx hb dX3_headBelow_19 rfl (lv_at hl 0 rfl) ?_
  refine lv_bipush (v := 16) hx hb dX3_headBelow_20 (by decide) ?_
  refine lv_lshl (v := (x2_18 <<< ((16 : Int32).toInt64 &&& 63))) hx hb dX3_headBelow_22 rfl ?_
  refine lv_aload_n hx hb dX3_headBelow_23 rfl (lv_at hl 1 rfl) ?_
  refine lv_iload_n hx hb dX3_headBelow_24 rfl (lv_at hl 2 rfl) ?_
  refine lv_iconst (v := 2) hx hb dX3_headBelow_25 (by decide) ?_
  refine lv_isub hx hb dX3_headBelow_26 ?_
  refine x_ci (va_runV (As := [.int (x1 - 2)]) (rest := [.long (x2_18 <<< ((16 : Int32).toInt64 &&& 63))]) ⟨hx, hb, hml, hown, hg⟩ (m_X3_digit l G h0  x0 (x1 - 2) _ hw H.size) (cwV 1 hg (x_gV km_X3_45 ki_X3_digit kz_X3_X3_digit kn_X3 kk_X3_digit) rfl rfl rfl (by decide +kernel) ⟨Nat.le_of_ble_eq_true rfl, Nat.le_of_ble_eq_true rfl⟩) ⟨x_blind, x_recv hI hK he_2 rfl rfl, x_pre hI hK⟩ rfl rfl hl.1 rfl (lv_room (Nat.le_of_ble_eq_true rfl)) dX3_headBelow_27 ⟨show 0 + 0 + 0 + 0 ≤ 0 by omega, show 0 + 0 + 0 + 0 ≤ 0 by omega⟩) hI (fun r_27 h_27 H locs hw hI => ?_)
  obtain ⟨eh_27, hw⟩ := hw
  rw [eh_27] at hI
  refine lv_i2l (v := (r_27 : Int32).toInt64) hx hb dX3_headBelow_30 rfl ?_
  refine lv_ladd hx hb dX3_headBelow_31 ?_
  exact x_lret hx hb hr hlocks hI ⟨rfl, hw⟩ (by omega) (by omega) dX3_headBelow_32
-- ===== ExactFilter$Rest.carryInto
abbrev rX3_carryInto  : Room := { frames := 0, cells := 0, slots := 0, locals := 0 }
def wp_X3_carryInto (h0 : xH)  (x0 : Nat) (x1 : Int32) (x2 : Int64) (post : Int64 → xH → Prop) : Prop := ∃ fs_2 : List Value, h0 x0 = some (.inr (3, fs_2)) ∧ ∃ v_2 : Int32, fs_2[1]? = some (.int v_2) ∧ (x1 < v_2 → ∃ v_11 : Nat, fs_2[0]? = some (.ref v_11) ∧ ∃ (n_15 : Nat) (f_15 : Nat → Int32), h0 v_11 = some (.inl (0, n_15, .inl f_15)) ∧ vp_in x1 n_15 ∧ ∀ (x4_19 : Int64), x4_19 = ((((f_15 (x1 : Int32).toNatClampNeg) : Int32).toInt64) + x2) → vp_in x1 n_15 ∧ ∀ h_33 : xH, h_33 = x_up h0 v_11 (.inl (0, n_15, .inl (upd f_15 (x1 : Int32).toNatClampNeg (((x4_19 &&& 65535) : Int64).toInt32)))) → post (x4_19 >>> ((16 : Int32).toInt64 &&& 63)) h_33) ∧ (¬ x1 < v_2 → post x2 h0)
set_option maxHeartbeats 4000000 in
set_option maxRecDepth 100000 in
theorem m_X3_carryInto (l : Launch) (G : xG) (h0 : xH)  (x0 : Nat) (x1 : Int32) (x2 : Int64) (post : Int64 → xH → Prop) (hw : wp_X3_carryInto h0  x0 x1 x2 post) (sz : Nat) : Met l yX3_carryInto (wu yX3_carryInto cX3_carryInto 6 (some .long)) (rX3_carryInto) (x_Pc G [.ref x0, .int x1, .long x2] h0 sz) (x_Ql G h0 sz post) 0 0 (x_A h0 sz) := by
  refine Met.ofW (cc := cX3_carryInto) (maxL := 6) (ret := (some .long)) (by decide) rfl ?_
  intro p e s m args below meth c s₁ B hml hv
  obtain ⟨rfl, hsz, hR, hK⟩ := hv
  subst hsz
  have C : CX p s m _ meth c G RX3 cX3_carryInto 6 (some .long) := ⟨B.exec, B.bytes, B.returns, hml, findClass_of_methodNamed B.named, x_hg (atoms_spec (ws := wu yX3_carryInto cX3_carryInto 6 (some .long)) B.pre), B.notSynchronized, hK⟩
  obtain ⟨hx, hb, hr, hml, hown, hg, hlocks, hK⟩ := id C
  have hI : x_I G (x_A h0 s.heap.size) s.heap h0 s.heap [] := x_I.start hR
  have hkc : 0 + 0 ≤ 0 := by omega
  have hks : 0 + 0 ≤ 0 := by omega
  have hl := lv_entry ([.ref x0, .int x1, .long x2]) (n := 6) (Nat.le_of_ble_eq_true rfl)
  rw [lg_entry_eq]
  generalize (lg_sl ([.ref x0, .int x1, .long x2]) ++ List.replicate (6 - (lg_sl ([.ref x0, .int x1, .long x2])).length) Slot.unset).toArray = ls at hl ⊢
  have hl : lv_has ls 6 [(0, .ref x0), (1, .int x1), (2, .long x2)] := hl
  unfold wp_X3_carryInto at hw
  refine lv_iload_n hx hb dX3_carryInto_0 rfl (lv_at hl 1 rfl) ?_
  refine lv_aload_n hx hb dX3_carryInto_1 rfl (lv_at hl 0 rfl) ?_
  obtain ⟨fs_2, he_2, hw⟩ := hw
  obtain ⟨v_2, hv_2, hw⟩ := hw
  refine x_get (ci := 3) (C := RX3) (T := TX3) (N := 2) hx hb hg ku_X3 hown hK hI he_2 rfl 1 (by decide) (hg _ kf_X3_23) (fun _ h9 => h9) hv_2 dX3_carryInto_2 ?_
  refine lv_icmp_lt (tgt := 10) hx hb dX3_carryInto_5 (by decide) (fun hc5 => ?_) (fun hc5 => ?_)
  · have hw := hw.1 hc5
    refine lv_aload_n hx hb dX3_carryInto_10 rfl (lv_at hl 0 rfl) ?_
    obtain ⟨v_11, hv_11, hw⟩ := hw
    refine x_get (ci := 3) (C := RX3) (T := TX3) (N := 2) hx hb hg ku_X3 hown hK hI he_2 rfl 0 (by decide) (hg _ kf_X3_13) (fun _ h9 => h9) hv_11 dX3_carryInto_11 ?_
    refine lv_iload_n hx hb dX3_carryInto_14 rfl (lv_at hl 1 rfl) ?_
    obtain ⟨n_15, f_15, he_15, hw⟩ := hw
    obtain ⟨hi15, hw⟩ := hw
    refine x_iald hx hb hK hI he_15 hi15 dX3_carryInto_15 ?_
    refine lv_i2l (v := ((f_15 (x1 : Int32).toNatClampNeg) : Int32).toInt64) hx hb dX3_carryInto_16 rfl ?_
    refine lv_lload_n hx hb dX3_carryInto_17 rfl (lv_at hl 2 rfl) ?_
    refine lv_ladd hx hb dX3_carryInto_18 ?_
    refine lv_topl (fun x4_19 ex4_19 => ?_)
    have hw := hw x4_19 ex4_19
    refine lv_lstore (lv' := [(4, .long x4_19), (0, .ref x0), (1, .int x1), (2, .long x2)]) hx hb dX3_carryInto_19 hl (by decide) rfl (fun ls hl => ?_)
    refine lv_aload_n hx hb dX3_carryInto_21 rfl (lv_at hl 1 rfl) ?_
    refine x_get (ci := 3) (C := RX3) (T := TX3) (N := 2) hx hb hg ku_X3 hown hK hI he_2 rfl 0 (by decide) (hg _ kf_X3_13) (fun _ h9 => h9) hv_11 dX3_carryInto_22 ?_
    refine lv_iload_n hx hb dX3_carryInto_25 rfl (lv_at hl 2 rfl) ?_
    refine lv_lload hx hb dX3_carryInto_26 (lv_at hl 0 rfl) ?_
    refine lv_ldc2 (v := 65535) hx hb hown (hg _ kc_X3_49) dX3_carryInto_28 ?_
    refine lv_land hx hb dX3_carryInto_31 ?_
    refine lv_l2i (v := ((x4_19 &&& 65535) : Int64).toInt32) hx hb dX3_carryInto_32 rfl ?_
    obtain ⟨hi33, hw⟩ := hw
    refine x_iast hx hb hK hI he_15 hi33 dX3_carryInto_33 (fun H locs hI => ?_)
    obtain ⟨h_33, eh_33⟩ : ∃ z : xH, z = x_up h0 v_11 (.inl (0, n_15, .inl (upd f_15 (x1 : Int32).toNatClampNeg (((x4_19 &&& 65535) : Int64).toInt32)))) := ⟨_, rfl⟩
    rw [← eh_33] at hI
    have hw := hw h_33 eh_33
    have heh_33 : h_33 v_11 = some (.inl (0, n_15, .inl (upd f_15 (x1 : Int32).toNatClampNeg (((x4_19 &&& 65535) : Int64).toInt32)))) := by rw [eh_33]; exact x_up_s
    refine lv_lload hx hb dX3_carryInto_34 (lv_at hl 0 rfl) ?_
    refine lv_bipush (v := 16) hx hb dX3_carryInto_36 (by decide) ?_
    refine lv_lshr (v := (x4_19 >>> ((16 : Int32).toInt64 &&& 63))) hx hb dX3_carryInto_38 rfl ?_
    exact x_lret hx hb hr hlocks hI hw (by omega) (by omega) dX3_carryInto_39
  · have hw := hw.2 hc5
    refine lv_lload_n hx hb dX3_carryInto_8 rfl (lv_at hl 2 rfl) ?_
    exact x_lret hx hb hr hlocks hI hw (by omega) (by omega) dX3_carryInto_9
-- ===== ExactFilter$Rest.takesTooMuch
abbrev rX3_takesTooMuch  : Room := { frames := 1, cells := 0, slots := 0, locals := 25 }
def wl_X3_takesTooMuch_10  (post : Int32 → xH → Prop) (K75 : xH → Nat → Nat → Int32 → Int64 → Prop) : Nat → xH → Nat → Nat → Int32 → Int64 → Int64 → Int32 → Prop
  | 0, _, _, _, _, _, _, _ => False
  | n + 1, h, x0, x1, x2, x4, x6, x8 => ∃ fs_13 : List Value, h x1 = some (.inr (3, fs_13)) ∧ ∃ v_13 : Int32, fs_13[1]? = some (.int v_13) ∧ (v_13 ≤ x8 → K75 h x0 x1 x2 x6) ∧ (¬ v_13 ≤ x8 → ∃ fs_20 : List Value, h x0 = some (.inr (3, fs_20)) ∧ ∃ v_20 : Nat, fs_20[0]? = some (.ref v_20) ∧ ∃ (n_27 : Nat) (f_27 : Nat → Int32), h v_20 = some (.inl (0, n_27, .inl f_27)) ∧ vp_in (x2 + x8) n_27 ∧ ∃ v_32 : Nat, fs_13[0]? = some (.ref v_32) ∧ ∃ (n_37 : Nat) (f_37 : Nat → Int32), h v_32 = some (.inl (0, n_37, .inl f_37)) ∧ vp_in x8 n_37 ∧ ∀ (x9_44 : Int64), x9_44 = (((((f_27 ((x2 + x8) : Int32).toNatClampNeg) : Int32).toInt64) - (x4 * (((f_37 (x8 : Int32).toNatClampNeg) : Int32).toInt64))) + x6) → vp_in (x2 + x8) n_27 ∧ ∀ h_61 : xH, h_61 = x_up h v_20 (.inl (0, n_27, .inl (upd f_27 ((x2 + x8) : Int32).toNatClampNeg (((x9_44 &&& 65535) : Int64).toInt32)))) → ∀ (x6_67 : Int64), x6_67 = (x9_44 >>> ((16 : Int32).toInt64 &&& 63)) → ∀ (x8_69 : Int32), x8_69 = x8 + 1 → wl_X3_takesTooMuch_10  post K75 n h_61 x0 x1 x2 x4 x6_67 x8_69)
def wj_X3_takesTooMuch_97  (post : Int32 → xH → Prop)  (h : xH) (s0 : Int32) : Prop := narrow .boolean (.int s0) = .int s0 ∧ post s0 h
def wp_X3_takesTooMuch (h0 : xH)  (x0 : Nat) (x1 : Nat) (x2 : Int32) (x3 : Int32) (post : Int32 → xH → Prop) : Prop := ∀ (x4_2 : Int64), x4_2 = ((x3 : Int32).toInt64) → ∃ n10 : Nat, wl_X3_takesTooMuch_10  post (fun (h : xH) (x0 : Nat) (x1 : Nat) (x2 : Int32) (x6 : Int64) => ∃ fs_78 : List Value, h x1 = some (.inr (3, fs_78)) ∧ ∃ v_78 : Int32, fs_78[1]? = some (.int v_78) ∧ ∃ fs_84 : List Value, h x0 = some (.inr (3, fs_84)) ∧ wp_X3_carryInto h  x0 (x2 + v_78) x6 (fun (r_84 : Int64) (h_84 : xH) => (0 ≤ r_84 → wj_X3_takesTooMuch_97  post  h_84 0) ∧ (¬ 0 ≤ r_84 → wj_X3_takesTooMuch_97  post  h_84 1))) n10 h0 x0 x1 x2 x4_2 0 0
set_option maxHeartbeats 4000000 in
set_option maxRecDepth 100000 in
theorem ml_X3_takesTooMuch_10 (C : CX p s m args meth c G RX3 cX3_takesTooMuch 11 (some .boolean)) (h0 : xH) (post : Int32 → xH → Prop) (K75 : xH → Nat → Nat → Int32 → Int64 → Prop)
    (hK75 : (∀ (h : xH) (x0 : Nat) (x1 : Nat) (x2 : Int32) (x6 : Int64) (H : Heap) (locs : List Loc) (ls : Array Slot) (nc ns : Nat), K75 h x0 x1 x2 x6 → x_I G (x_A h0 s.heap.size) s.heap h H locs → nc + 0 ≤ 0 → ns + 0 ≤ 0 → lv_has ls 11 [(0, .ref x0), (1, .ref x1), (2, .int x2), (6, .long x6)] → W p l e (rX3_takesTooMuch) s m args below meth c H locs nc ns (MQ below (x_Qi G h0 s.heap.size post) args s 0 0 (x_A h0 s.heap.size)) (F0 m 75 ls []))) :
    ∀ (n : Nat) (h : xH) (x0 : Nat) (x1 : Nat) (x2 : Int32) (x4 : Int64) (x6 : Int64) (x8 : Int32) (H : Heap) (locs : List Loc) (ls : Array Slot) (nc ns : Nat), wl_X3_takesTooMuch_10  post K75 n h x0 x1 x2 x4 x6 x8 → x_I G (x_A h0 s.heap.size) s.heap h H locs → nc + 0 ≤ 0 → ns + 0 ≤ 0 → lv_has ls 11 [(0, .ref x0), (1, .ref x1), (2, .int x2), (4, .long x4), (6, .long x6), (8, .int x8)] → W p l e (rX3_takesTooMuch) s m args below meth c H locs nc ns (MQ below (x_Qi G h0 s.heap.size post) args s 0 0 (x_A h0 s.heap.size)) (F0 m 10 ls []) := by
  obtain ⟨hx, hb, hr, hml, hown, hg, hlocks, hK⟩ := id C
  intro n
  induction n with
  | zero => intro h x0 x1 x2 x4 x6 x8 H locs ls nc ns hw; exact absurd hw id
  | succ n ih =>
    intro h x0 x1 x2 x4 x6 x8 H locs ls nc ns hw hI hkc hks hl
    refine lv_iload hx hb dX3_takesTooMuch_10 (lv_at hl 5 rfl) ?_
    refine lv_aload_n hx hb dX3_takesTooMuch_12 rfl (lv_at hl 1 rfl) ?_
    obtain ⟨fs_13, he_13, hw⟩ := hw
    obtain ⟨v_13, hv_13, hw⟩ := hw
    refine x_get (ci := 3) (C := RX3) (T := TX3) (N := 2) hx hb hg ku_X3 hown hK hI he_13 rfl 1 (by decide) (hg _ kf_X3_23) (fun _ h9 => h9) hv_13 dX3_takesTooMuch_13 ?_
    refine lv_icmp_ge (tgt := 75) hx hb dX3_takesTooMuch_16 (by decide) (fun hc16 => ?_) (fun hc16 => ?_)
    · have hw := hw.1 hc16
      exact hK75 _ _ _ _ _ _ _ _ _ _ hw hI (by omega) (by omega) (lv_sub hl [0, 1, 2, 4] rfl)
    · have hw := hw.2 hc16
      refine lv_aload_n hx hb dX3_takesTooMuch_19 rfl (lv_at hl 0 rfl) ?_
      obtain ⟨fs_20, he_20, hw⟩ := hw
      obtain ⟨v_20, hv_20, hw⟩ := hw
      refine x_get (ci := 3) (C := RX3) (T := TX3) (N := 2) hx hb hg ku_X3 hown hK hI he_20 rfl 0 (by decide) (hg _ kf_X3_13) (fun _ h9 => h9) hv_20 dX3_takesTooMuch_20 ?_
      refine lv_iload_n hx hb dX3_takesTooMuch_23 rfl (lv_at hl 2 rfl) ?_
      refine lv_iload hx hb dX3_takesTooMuch_24 (lv_at hl 5 rfl) ?_
      refine lv_iadd hx hb dX3_takesTooMuch_26 ?_
      obtain ⟨n_27, f_27, he_27, hw⟩ := hw
      obtain ⟨hi27, hw⟩ := hw
      refine x_iald hx hb hK hI he_27 hi27 dX3_takesTooMuch_27 ?_
      refine lv_i2l (v := ((f_27 ((x2 + x8) : Int32).toNatClampNeg) : Int32).toInt64) hx hb dX3_takesTooMuch_28 rfl ?_
      refine lv_lload hx hb dX3_takesTooMuch_29 (lv_at hl 3 rfl) ?_
      refine lv_aload_n hx hb dX3_takesTooMuch_31 rfl (lv_at hl 1 rfl) ?_
      obtain ⟨v_32, hv_32, hw⟩ := hw
      refine x_get (ci := 3) (C := RX3) (T := TX3) (N := 2) hx hb hg ku_X3 hown hK hI he_13 rfl 0 (by decide) (hg _ kf_X3_13) (fun _ h9 => h9) hv_32 dX3_takesTooMuch_32 ?_
      refine lv_iload hx hb dX3_takesTooMuch_35 (lv_at hl 5 rfl) ?_
      obtain ⟨n_37, f_37, he_37, hw⟩ := hw
      obtain ⟨hi37, hw⟩ := hw
      refine x_iald hx hb hK hI he_37 hi37 dX3_takesTooMuch_37 ?_
      refine lv_i2l (v := ((f_37 (x8 : Int32).toNatClampNeg) : Int32).toInt64) hx hb dX3_takesTooMuch_38 rfl ?_
      refine lv_lmul hx hb dX3_takesTooMuch_39 ?_
      refine lv_lsub hx hb dX3_takesTooMuch_40 ?_
      refine lv_lload hx hb dX3_takesTooMuch_41 (lv_at hl 4 rfl) ?_
      refine lv_ladd hx hb dX3_takesTooMuch_43 ?_
      refine lv_topl (fun x9_44 ex9_44 => ?_)
      have hw := hw x9_44 ex9_44
      refine lv_lstore (lv' := [(9, .long x9_44), (0, .ref x0), (1, .ref x1), (2, .int x2), (4, .long x4), (6, .long x6), (8, .int x8)]) hx hb dX3_takesTooMuch_44 hl (by decide) rfl (fun ls hl => ?_)
      refine lv_aload_n hx hb dX3_takesTooMuch_46 rfl (lv_at hl 1 rfl) ?_
      refine x_get (ci := 3) (C := RX3) (T := TX3) (N := 2) hx hb hg ku_X3 hown hK hI he_20 rfl 0 (by decide) (hg _ kf_X3_13) (fun _ h9 => h9) hv_20 dX3_takesTooMuch_47 ?_
      refine lv_iload_n hx hb dX3_takesTooMuch_50 rfl (lv_at hl 3 rfl) ?_
      refine lv_iload hx hb dX3_takesTooMuch_51 (lv_at hl 6 rfl) ?_
      refine lv_iadd hx hb dX3_takesTooMuch_53 ?_
      refine lv_lload hx hb dX3_takesTooMuch_54 (lv_at hl 0 rfl) ?_
      refine lv_ldc2 (v := 65535) hx hb hown (hg _ kc_X3_49) dX3_takesTooMuch_56 ?_
      refine lv_land hx hb dX3_takesTooMuch_59 ?_
      refine lv_l2i (v := ((x9_44 &&& 65535) : Int64).toInt32) hx hb dX3_takesTooMuch_60 rfl ?_
      obtain ⟨hi61, hw⟩ := hw
      refine x_iast hx hb hK hI he_27 hi61 dX3_takesTooMuch_61 (fun H locs hI => ?_)
      obtain ⟨h_61, eh_61⟩ : ∃ z : xH, z = x_up h v_20 (.inl (0, n_27, .inl (upd f_27 ((x2 + x8) : Int32).toNatClampNeg (((x9_44 &&& 65535) : Int64).toInt32)))) := ⟨_, rfl⟩
      rw [← eh_61] at hI
      have hw := hw h_61 eh_61
      have heh_61 : h_61 v_20 = some (.inl (0, n_27, .inl (upd f_27 ((x2 + x8) : Int32).toNatClampNeg (((x9_44 &&& 65535) : Int64).toInt32)))) := by rw [eh_61]; exact x_up_s
      refine lv_lload hx hb dX3_takesTooMuch_62 (lv_at hl 0 rfl) ?_
      refine lv_bipush (v := 16) hx hb dX3_takesTooMuch_64 (by decide) ?_
      refine lv_lshr (v := (x9_44 >>> ((16 : Int32).toInt64 &&& 63))) hx hb dX3_takesTooMuch_66 rfl ?_
      refine lv_topl (fun x6_67 ex6_67 => ?_)
      have hw := hw x6_67 ex6_67
      refine lv_lstore (lv' := [(6, .long x6_67), (9, .long x9_44), (0, .ref x0), (1, .ref x1), (2, .int x2), (4, .long x4), (8, .int x8)]) hx hb dX3_takesTooMuch_67 hl (by decide) rfl (fun ls hl => ?_)
      obtain ⟨x8_69, ex8_69⟩ : ∃ y : Int32, y = x8 + 1 := ⟨_, rfl⟩
      have hw := hw x8_69 ex8_69
      refine lv_iinc (v := x8_69) (lv' := [(8, .int x8_69), (6, .long x6_67), (9, .long x9_44), (0, .ref x0), (1, .ref x1), (2, .int x2), (4, .long x4)]) hx hb dX3_takesTooMuch_69 hl (k := 6) rfl (by rw [ex8_69]; rfl) (by decide) rfl (fun ls hl => ?_)
      refine lv_goto (tgt := 10) hx hb dX3_takesTooMuch_72 (by decide) ?_
      exact ih _ _ _ _ _ _ _ _ _ _ _ _ hw hI (by omega) (by omega) (lv_sub hl [3, 4, 5, 6, 1, 0] rfl)
set_option maxHeartbeats 4000000 in
set_option maxRecDepth 100000 in
theorem mj_X3_takesTooMuch_97 (C : CX p s m args meth c G RX3 cX3_takesTooMuch 11 (some .boolean)) (h0 : xH) (post : Int32 → xH → Prop) 
    
    (h : xH) (s0 : Int32) (H : Heap) (locs : List Loc) (ls : Array Slot) (nc ns : Nat) (hw : wj_X3_takesTooMuch_97  post  h s0) (hI : x_I G (x_A h0 s.heap.size) s.heap h H locs) (hkc : nc + 0 ≤ 0) (hks : ns + 0 ≤ 0) (hl : lv_has ls 11 []) : W p l e (rX3_takesTooMuch) s m args below meth c H locs nc ns (MQ below (x_Qi G h0 s.heap.size post) args s 0 0 (x_A h0 s.heap.size)) (F0 m 97 ls [.int s0]) := by
  obtain ⟨hx, hb, hr, hml, hown, hg, hlocks, hK⟩ := id C
  unfold wj_X3_takesTooMuch_97 at hw
  exact x_zret hx hb hr hw.1 hlocks hI hw.2 (by omega) (by omega) dX3_takesTooMuch_97
set_option maxHeartbeats 4000000 in
set_option maxRecDepth 100000 in
theorem m_X3_takesTooMuch (l : Launch) (G : xG) (h0 : xH)  (x0 : Nat) (x1 : Nat) (x2 : Int32) (x3 : Int32) (post : Int32 → xH → Prop) (hw : wp_X3_takesTooMuch h0  x0 x1 x2 x3 post) (sz : Nat) : Met l yX3_takesTooMuch (wu yX3_takesTooMuch cX3_takesTooMuch 11 (some .boolean)) (rX3_takesTooMuch) (x_Pc G [.ref x0, .ref x1, .int x2, .int x3] h0 sz) (x_Qi G h0 sz post) 0 0 (x_A h0 sz) := by
  refine Met.ofW (cc := cX3_takesTooMuch) (maxL := 11) (ret := (some .boolean)) (by decide) rfl ?_
  intro p e s m args below meth c s₁ B hml hv
  obtain ⟨rfl, hsz, hR, hK⟩ := hv
  subst hsz
  have C : CX p s m _ meth c G RX3 cX3_takesTooMuch 11 (some .boolean) := ⟨B.exec, B.bytes, B.returns, hml, findClass_of_methodNamed B.named, x_hg (atoms_spec (ws := wu yX3_takesTooMuch cX3_takesTooMuch 11 (some .boolean)) B.pre), B.notSynchronized, hK⟩
  obtain ⟨hx, hb, hr, hml, hown, hg, hlocks, hK⟩ := id C
  have hI : x_I G (x_A h0 s.heap.size) s.heap h0 s.heap [] := x_I.start hR
  have hkc : 0 + 0 ≤ 0 := by omega
  have hks : 0 + 0 ≤ 0 := by omega
  have hl := lv_entry ([.ref x0, .ref x1, .int x2, .int x3]) (n := 11) (Nat.le_of_ble_eq_true rfl)
  rw [lg_entry_eq]
  generalize (lg_sl ([.ref x0, .ref x1, .int x2, .int x3]) ++ List.replicate (11 - (lg_sl ([.ref x0, .ref x1, .int x2, .int x3])).length) Slot.unset).toArray = ls at hl ⊢
  have hl : lv_has ls 11 [(0, .ref x0), (1, .ref x1), (2, .int x2), (3, .int x3)] := hl
  unfold wp_X3_takesTooMuch at hw
  refine lv_iload_n hx hb dX3_takesTooMuch_0 rfl (lv_at hl 3 rfl) ?_
  refine lv_i2l (v := (x3 : Int32).toInt64) hx hb dX3_takesTooMuch_1 rfl ?_
  refine lv_topl (fun x4_2 ex4_2 => ?_)
  have hw := hw x4_2 ex4_2
  refine lv_lstore (lv' := [(4, .long x4_2), (0, .ref x0), (1, .ref x1), (2, .int x2), (3, .int x3)]) hx hb dX3_takesTooMuch_2 hl (by decide) rfl (fun ls hl => ?_)
  refine lv_lconst (v := 0) hx hb dX3_takesTooMuch_4 (by decide) ?_
  refine lv_lstore (lv' := [(6, .long 0), (4, .long x4_2), (0, .ref x0), (1, .ref x1), (2, .int x2), (3, .int x3)]) hx hb dX3_takesTooMuch_5 hl (by decide) rfl (fun ls hl => ?_)
  refine lv_iconst (v := 0) hx hb dX3_takesTooMuch_7 (by decide) ?_
  refine lv_istore (lv' := [(8, .int 0), (6, .long 0), (4, .long x4_2), (0, .ref x0), (1, .ref x1), (2, .int x2), (3, .int x3)]) hx hb dX3_takesTooMuch_8 hl (by decide) rfl (fun ls hl => ?_)
  obtain ⟨n10, hw⟩ := hw
  refine ml_X3_takesTooMuch_10 C h0 post _ ?_ n10 _ _ _ _ _ _ _ _ _ _ _ _ hw hI (by omega) (by omega) (lv_sub hl [3, 4, 5, 2, 1, 0] rfl)
  · intro h x0 x1 x2 x6 H locs ls nc ns hw hI hkc hks hl
    refine lv_aload_n hx hb dX3_takesTooMuch_75 rfl (lv_at hl 0 rfl) ?_
    refine lv_iload_n hx hb dX3_takesTooMuch_76 rfl (lv_at hl 2 rfl) ?_
    refine lv_aload_n hx hb dX3_takesTooMuch_77 rfl (lv_at hl 1 rfl) ?_
    obtain ⟨fs_78, he_78, hw⟩ := hw
    obtain ⟨v_78, hv_78, hw⟩ := hw
    refine x_get (ci := 3) (C := RX3) (T := TX3) (N := 2) hx hb hg ku_X3 hown hK hI he_78 rfl 1 (by decide) (hg _ kf_X3_23) (fun _ h9 => h9) hv_78 dX3_takesTooMuch_78 ?_
    refine lv_iadd hx hb dX3_takesTooMuch_81 ?_
    refine lv_lload hx hb dX3_takesTooMuch_82 (lv_at hl 3 rfl) ?_
    obtain ⟨fs_84, he_84, hw⟩ := hw
    refine x_cl (va_runV (As := [.int (x2 + v_78), .long x6]) (rest := []) ⟨hx, hb, hml, hown, hg⟩ (m_X3_carryInto l G h  x0 (x2 + v_78) x6 _ hw H.size) (cwV 2 hg (x_gV km_X3_51 ki_X3_carryInto kz_X3_X3_carryInto kn_X3 kk_X3_carryInto) rfl rfl rfl (by decide +kernel) ⟨Nat.le_of_ble_eq_true rfl, Nat.le_of_ble_eq_true rfl⟩) ⟨x_blind, x_recv hI hK he_84 rfl rfl, x_pre hI hK⟩ rfl rfl hl.1 rfl (lv_room (Nat.le_of_ble_eq_true rfl)) dX3_takesTooMuch_84 ⟨show nc + 0 ≤ 0 by omega, show ns + 0 ≤ 0 by omega⟩) hI (fun r_84 h_84 H locs hw hI => ?_)
    refine lv_lconst (v := 0) hx hb dX3_takesTooMuch_87 (by decide) ?_
    refine W.lcmp hx hb dX3_takesTooMuch_88 ?_
    refine lv_if_ge (tgt := 96) hx hb dX3_takesTooMuch_89 (by decide) (fun hc89 => ?_) (fun hc89 => ?_)
    · have hw := hw.1 ((lg_cmp_ge _ _).mp hc89)
      refine lv_iconst (v := 0) hx hb dX3_takesTooMuch_96 (by decide) ?_
      exact mj_X3_takesTooMuch_97 C h0 post  _ _ _ _ _ _ _ hw hI (by omega) (by omega) (lv_sub hl [] rfl)
    · have hw := hw.2 (fun z => hc89 ((lg_cmp_ge _ _).mpr z))
      refine lv_iconst (v := 1) hx hb dX3_takesTooMuch_92 (by decide) ?_
      refine lv_goto (tgt := 97) hx hb dX3_takesTooMuch_93 (by decide) ?_
      exact mj_X3_takesTooMuch_97 C h0 post  _ _ _ _ _ _ _ hw hI (by omega) (by omega) (lv_sub hl [] rfl)
-- ===== ExactFilter$Rest.giveBack
abbrev rX3_giveBack  : Room := { frames := 1, cells := 0, slots := 0, locals := 25 }
def wl_X3_giveBack_5  (post : xH → Prop) (K61 : xH → Nat → Nat → Int32 → Int32 → Prop) : Nat → xH → Nat → Nat → Int32 → Int32 → Int32 → Prop
  | 0, _, _, _, _, _, _ => False
  | n + 1, h, x0, x1, x2, x3, x4 => ∃ fs_8 : List Value, h x1 = some (.inr (3, fs_8)) ∧ ∃ v_8 : Int32, fs_8[1]? = some (.int v_8) ∧ (v_8 ≤ x4 → K61 h x0 x1 x2 x3) ∧ (¬ v_8 ≤ x4 → ∃ fs_15 : List Value, h x0 = some (.inr (3, fs_15)) ∧ ∃ v_15 : Nat, fs_15[0]? = some (.ref v_15) ∧ ∃ (n_22 : Nat) (f_22 : Nat → Int32), h v_15 = some (.inl (0, n_22, .inl f_22)) ∧ vp_in (x2 + x4) n_22 ∧ ∃ v_24 : Nat, fs_8[0]? = some (.ref v_24) ∧ ∃ (n_29 : Nat) (f_29 : Nat → Int32), h v_24 = some (.inl (0, n_29, .inl f_29)) ∧ vp_in x4 n_29 ∧ ∀ (x5_33 : Int32), x5_33 = (((f_22 ((x2 + x4) : Int32).toNatClampNeg) + (f_29 (x4 : Int32).toNatClampNeg)) + x3) → vp_in (x2 + x4) n_22 ∧ ∀ h_48 : xH, h_48 = x_up h v_15 (.inl (0, n_22, .inl (upd f_22 ((x2 + x4) : Int32).toNatClampNeg (x5_33 &&& 65535)))) → ∀ (x3_54 : Int32), x3_54 = (x5_33 >>> ((16 : Int32) &&& 31)) → ∀ (x4_55 : Int32), x4_55 = x4 + 1 → wl_X3_giveBack_5  post K61 n h_48 x0 x1 x2 x3_54 x4_55)
def wp_X3_giveBack (h0 : xH)  (x0 : Nat) (x1 : Nat) (x2 : Int32) (post : xH → Prop) : Prop := ∃ n5 : Nat, wl_X3_giveBack_5  post (fun (h : xH) (x0 : Nat) (x1 : Nat) (x2 : Int32) (x3 : Int32) => ∃ fs_64 : List Value, h x1 = some (.inr (3, fs_64)) ∧ ∃ v_64 : Int32, fs_64[1]? = some (.int v_64) ∧ ∃ fs_70 : List Value, h x0 = some (.inr (3, fs_70)) ∧ wp_X3_carryInto h  x0 (x2 + v_64) ((x3 : Int32).toInt64) (fun (r_70 : Int64) (h_70 : xH) => post h_70)) n5 h0 x0 x1 x2 0 0
set_option maxHeartbeats 4000000 in
set_option maxRecDepth 100000 in
theorem ml_X3_giveBack_5 (C : CX p s m args meth c G RX3 cX3_giveBack 6 none) (h0 : xH) (post : xH → Prop) (K61 : xH → Nat → Nat → Int32 → Int32 → Prop)
    (hK61 : (∀ (h : xH) (x0 : Nat) (x1 : Nat) (x2 : Int32) (x3 : Int32) (H : Heap) (locs : List Loc) (ls : Array Slot) (nc ns : Nat), K61 h x0 x1 x2 x3 → x_I G (x_A h0 s.heap.size) s.heap h H locs → nc + 0 ≤ 0 → ns + 0 ≤ 0 → lv_has ls 6 [(0, .ref x0), (1, .ref x1), (2, .int x2), (3, .int x3)] → W p l e (rX3_giveBack) s m args below meth c H locs nc ns (MQ below (x_Qv G h0 s.heap.size post) args s 0 0 (x_A h0 s.heap.size)) (F0 m 61 ls []))) :
    ∀ (n : Nat) (h : xH) (x0 : Nat) (x1 : Nat) (x2 : Int32) (x3 : Int32) (x4 : Int32) (H : Heap) (locs : List Loc) (ls : Array Slot) (nc ns : Nat), wl_X3_giveBack_5  post K61 n h x0 x1 x2 x3 x4 → x_I G (x_A h0 s.heap.size) s.heap h H locs → nc + 0 ≤ 0 → ns + 0 ≤ 0 → lv_has ls 6 [(0, .ref x0), (1, .ref x1), (2, .int x2), (3, .int x3), (4, .int x4)] → W p l e (rX3_giveBack) s m args below meth c H locs nc ns (MQ below (x_Qv G h0 s.heap.size post) args s 0 0 (x_A h0 s.heap.size)) (F0 m 5 ls []) := by
  obtain ⟨hx, hb, hr, hml, hown, hg, hlocks, hK⟩ := id C
  intro n
  induction n with
  | zero => intro h x0 x1 x2 x3 x4 H locs ls nc ns hw; exact absurd hw id
  | succ n ih =>
    intro h x0 x1 x2 x3 x4 H locs ls nc ns hw hI hkc hks hl
    refine lv_iload hx hb dX3_giveBack_5 (lv_at hl 4 rfl) ?_
    refine lv_aload_n hx hb dX3_giveBack_7 rfl (lv_at hl 1 rfl) ?_
    obtain ⟨fs_8, he_8, hw⟩ := hw
    obtain ⟨v_8, hv_8, hw⟩ := hw
    refine x_get (ci := 3) (C := RX3) (T := TX3) (N := 2) hx hb hg ku_X3 hown hK hI he_8 rfl 1 (by decide) (hg _ kf_X3_23) (fun _ h9 => h9) hv_8 dX3_giveBack_8 ?_
    refine lv_icmp_ge (tgt := 61) hx hb dX3_giveBack_11 (by decide) (fun hc11 => ?_) (fun hc11 => ?_)
    · have hw := hw.1 hc11
      exact hK61 _ _ _ _ _ _ _ _ _ _ hw hI (by omega) (by omega) (lv_sub hl [0, 1, 2, 3] rfl)
    · have hw := hw.2 hc11
      refine lv_aload_n hx hb dX3_giveBack_14 rfl (lv_at hl 0 rfl) ?_
      obtain ⟨fs_15, he_15, hw⟩ := hw
      obtain ⟨v_15, hv_15, hw⟩ := hw
      refine x_get (ci := 3) (C := RX3) (T := TX3) (N := 2) hx hb hg ku_X3 hown hK hI he_15 rfl 0 (by decide) (hg _ kf_X3_13) (fun _ h9 => h9) hv_15 dX3_giveBack_15 ?_
      refine lv_iload_n hx hb dX3_giveBack_18 rfl (lv_at hl 2 rfl) ?_
      refine lv_iload hx hb dX3_giveBack_19 (lv_at hl 4 rfl) ?_
      refine lv_iadd hx hb dX3_giveBack_21 ?_
      obtain ⟨n_22, f_22, he_22, hw⟩ := hw
      obtain ⟨hi22, hw⟩ := hw
      refine x_iald hx hb hK hI he_22 hi22 dX3_giveBack_22 ?_
      refine lv_aload_n hx hb dX3_giveBack_23 rfl (lv_at hl 1 rfl) ?_
      obtain ⟨v_24, hv_24, hw⟩ := hw
      refine x_get (ci := 3) (C := RX3) (T := TX3) (N := 2) hx hb hg ku_X3 hown hK hI he_8 rfl 0 (by decide) (hg _ kf_X3_13) (fun _ h9 => h9) hv_24 dX3_giveBack_24 ?_
      refine lv_iload hx hb dX3_giveBack_27 (lv_at hl 4 rfl) ?_
      obtain ⟨n_29, f_29, he_29, hw⟩ := hw
      obtain ⟨hi29, hw⟩ := hw
      refine x_iald hx hb hK hI he_29 hi29 dX3_giveBack_29 ?_
      refine lv_iadd hx hb dX3_giveBack_30 ?_
      refine lv_iload_n hx hb dX3_giveBack_31 rfl (lv_at hl 3 rfl) ?_
      refine lv_iadd hx hb dX3_giveBack_32 ?_
      refine lv_topi (fun x5_33 ex5_33 => ?_)
      have hw := hw x5_33 ex5_33
      refine lv_istore (lv' := [(5, .int x5_33), (0, .ref x0), (1, .ref x1), (2, .int x2), (3, .int x3), (4, .int x4)]) hx hb dX3_giveBack_33 hl (by decide) rfl (fun ls hl => ?_)
      refine lv_aload_n hx hb dX3_giveBack_35 rfl (lv_at hl 1 rfl) ?_
      refine x_get (ci := 3) (C := RX3) (T := TX3) (N := 2) hx hb hg ku_X3 hown hK hI he_15 rfl 0 (by decide) (hg _ kf_X3_13) (fun _ h9 => h9) hv_15 dX3_giveBack_36 ?_
      refine lv_iload_n hx hb dX3_giveBack_39 rfl (lv_at hl 3 rfl) ?_
      refine lv_iload hx hb dX3_giveBack_40 (lv_at hl 5 rfl) ?_
      refine lv_iadd hx hb dX3_giveBack_42 ?_
      refine lv_iload hx hb dX3_giveBack_43 (lv_at hl 0 rfl) ?_
      refine lv_ldc (v := 65535) hx hb hown (hg _ kc_X3_55) dX3_giveBack_45 ?_
      refine lv_iand hx hb dX3_giveBack_47 ?_
      obtain ⟨hi48, hw⟩ := hw
      refine x_iast hx hb hK hI he_22 hi48 dX3_giveBack_48 (fun H locs hI => ?_)
      obtain ⟨h_48, eh_48⟩ : ∃ z : xH, z = x_up h v_15 (.inl (0, n_22, .inl (upd f_22 ((x2 + x4) : Int32).toNatClampNeg (x5_33 &&& 65535)))) := ⟨_, rfl⟩
      rw [← eh_48] at hI
      have hw := hw h_48 eh_48
      have heh_48 : h_48 v_15 = some (.inl (0, n_22, .inl (upd f_22 ((x2 + x4) : Int32).toNatClampNeg (x5_33 &&& 65535)))) := by rw [eh_48]; exact x_up_s
      refine lv_iload hx hb dX3_giveBack_49 (lv_at hl 0 rfl) ?_
      refine lv_bipush (v := 16) hx hb dX3_giveBack_51 (by decide) ?_
      refine lv_ishr hx hb dX3_giveBack_53 ?_
      refine lv_topi (fun x3_54 ex3_54 => ?_)
      have hw := hw x3_54 ex3_54
      refine lv_istore_n (lv' := [(3, .int x3_54), (5, .int x5_33), (0, .ref x0), (1, .ref x1), (2, .int x2), (4, .int x4)]) hx hb dX3_giveBack_54 rfl hl (by decide) rfl (fun ls hl => ?_)
      obtain ⟨x4_55, ex4_55⟩ : ∃ y : Int32, y = x4 + 1 := ⟨_, rfl⟩
      have hw := hw x4_55 ex4_55
      refine lv_iinc (v := x4_55) (lv' := [(4, .int x4_55), (3, .int x3_54), (5, .int x5_33), (0, .ref x0), (1, .ref x1), (2, .int x2)]) hx hb dX3_giveBack_55 hl (k := 5) rfl (by rw [ex4_55]; rfl) (by decide) rfl (fun ls hl => ?_)
      refine lv_goto (tgt := 5) hx hb dX3_giveBack_58 (by decide) ?_
      exact ih _ _ _ _ _ _ _ _ _ _ _ hw hI (by omega) (by omega) (lv_sub hl [3, 4, 5, 1, 0] rfl)
set_option maxHeartbeats 4000000 in
set_option maxRecDepth 100000 in
theorem m_X3_giveBack (l : Launch) (G : xG) (h0 : xH)  (x0 : Nat) (x1 : Nat) (x2 : Int32) (post : xH → Prop) (hw : wp_X3_giveBack h0  x0 x1 x2 post) (sz : Nat) : Met l yX3_giveBack (wu yX3_giveBack cX3_giveBack 6 none) (rX3_giveBack) (x_Pc G [.ref x0, .ref x1, .int x2] h0 sz) (x_Qv G h0 sz post) 0 0 (x_A h0 sz) := by
  refine Met.ofW (cc := cX3_giveBack) (maxL := 6) (ret := none) (by decide) rfl ?_
  intro p e s m args below meth c s₁ B hml hv
  obtain ⟨rfl, hsz, hR, hK⟩ := hv
  subst hsz
  have C : CX p s m _ meth c G RX3 cX3_giveBack 6 none := ⟨B.exec, B.bytes, B.returns, hml, findClass_of_methodNamed B.named, x_hg (atoms_spec (ws := wu yX3_giveBack cX3_giveBack 6 none) B.pre), B.notSynchronized, hK⟩
  obtain ⟨hx, hb, hr, hml, hown, hg, hlocks, hK⟩ := id C
  have hI : x_I G (x_A h0 s.heap.size) s.heap h0 s.heap [] := x_I.start hR
  have hkc : 0 + 0 ≤ 0 := by omega
  have hks : 0 + 0 ≤ 0 := by omega
  have hl := lv_entry ([.ref x0, .ref x1, .int x2]) (n := 6) (Nat.le_of_ble_eq_true rfl)
  rw [lg_entry_eq]
  generalize (lg_sl ([.ref x0, .ref x1, .int x2]) ++ List.replicate (6 - (lg_sl ([.ref x0, .ref x1, .int x2])).length) Slot.unset).toArray = ls at hl ⊢
  have hl : lv_has ls 6 [(0, .ref x0), (1, .ref x1), (2, .int x2)] := hl
  unfold wp_X3_giveBack at hw
  refine lv_iconst (v := 0) hx hb dX3_giveBack_0 (by decide) ?_
  refine lv_istore_n (lv' := [(3, .int 0), (0, .ref x0), (1, .ref x1), (2, .int x2)]) hx hb dX3_giveBack_1 rfl hl (by decide) rfl (fun ls hl => ?_)
  refine lv_iconst (v := 0) hx hb dX3_giveBack_2 (by decide) ?_
  refine lv_istore (lv' := [(4, .int 0), (3, .int 0), (0, .ref x0), (1, .ref x1), (2, .int x2)]) hx hb dX3_giveBack_3 hl (by decide) rfl (fun ls hl => ?_)
  obtain ⟨n5, hw⟩ := hw
  refine ml_X3_giveBack_5 C h0 post _ ?_ n5 _ _ _ _ _ _ _ _ _ _ _ hw hI (by omega) (by omega) (lv_sub hl [2, 3, 4, 1, 0] rfl)
  · intro h x0 x1 x2 x3 H locs ls nc ns hw hI hkc hks hl
    refine lv_aload_n hx hb dX3_giveBack_61 rfl (lv_at hl 0 rfl) ?_
    refine lv_iload_n hx hb dX3_giveBack_62 rfl (lv_at hl 2 rfl) ?_
    refine lv_aload_n hx hb dX3_giveBack_63 rfl (lv_at hl 1 rfl) ?_
    obtain ⟨fs_64, he_64, hw⟩ := hw
    obtain ⟨v_64, hv_64, hw⟩ := hw
    refine x_get (ci := 3) (C := RX3) (T := TX3) (N := 2) hx hb hg ku_X3 hown hK hI he_64 rfl 1 (by decide) (hg _ kf_X3_23) (fun _ h9 => h9) hv_64 dX3_giveBack_64 ?_
    refine lv_iadd hx hb dX3_giveBack_67 ?_
    refine lv_iload_n hx hb dX3_giveBack_68 rfl (lv_at hl 3 rfl) ?_
    refine lv_i2l (v := (x3 : Int32).toInt64) hx hb dX3_giveBack_69 rfl ?_
    obtain ⟨fs_70, he_70, hw⟩ := hw
    refine x_cl (va_runV (As := [.int (x2 + v_64), .long ((x3 : Int32).toInt64)]) (rest := []) ⟨hx, hb, hml, hown, hg⟩ (m_X3_carryInto l G h  x0 (x2 + v_64) ((x3 : Int32).toInt64) _ hw H.size) (cwV 2 hg (x_gV km_X3_51 ki_X3_carryInto kz_X3_X3_carryInto kn_X3 kk_X3_carryInto) rfl rfl rfl (by decide +kernel) ⟨Nat.le_of_ble_eq_true rfl, Nat.le_of_ble_eq_true rfl⟩) ⟨x_blind, x_recv hI hK he_70 rfl rfl, x_pre hI hK⟩ rfl rfl hl.1 rfl (lv_room (Nat.le_of_ble_eq_true rfl)) dX3_giveBack_70 ⟨show nc + 0 ≤ 0 by omega, show ns + 0 ≤ 0 by omega⟩) hI (fun r_70 h_70 H locs hw hI => ?_)
    refine lv_pop2_2 hx hb dX3_giveBack_73 rfl ?_
    exact x_vret hx hb hr hlocks hI hw (by omega) (by omega) dX3_giveBack_74
-- ===== ExactFilter$Rest.divideBy
abbrev rX3_divideBy  : Room := { frames := 2, cells := 0, slots := 0, locals := 55 }
def wj_X3_divideBy_84  (post : xH → Prop) (Rc : xH → Nat → Nat → Nat → Int64 → Int32 → Prop) (K90 : xH → Nat → Prop) (h : xH) (x0 : Nat) (x1 : Nat) (x2 : Nat) (x3 : Int64) (x5 : Int32) : Prop := ∀ (x5_84 : Int32), x5_84 = x5 + (-1) → Rc h x0 x1 x2 x3 x5_84
def wj_X3_divideBy_71  (post : xH → Prop) (Rc : xH → Nat → Nat → Nat → Int64 → Int32 → Prop) (K90 : xH → Nat → Prop) (h : xH) (x0 : Nat) (x1 : Nat) (x2 : Nat) (x3 : Int64) (x5 : Int32) (x6 : Int32) : Prop := ∃ (n_74 : Nat) (f_74 : Nat → Int32), h x2 = some (.inl (0, n_74, .inl f_74)) ∧ ((nI n_74) ≤ x5 → wj_X3_divideBy_84  post (Rc) K90 h x0 x1 x2 x3 x5) ∧ (¬ (nI n_74) ≤ x5 → vp_in x5 n_74 ∧ ∀ h_83 : xH, h_83 = x_up h x2 (.inl (0, n_74, .inl (upd f_74 (x5 : Int32).toNatClampNeg x6))) → wj_X3_divideBy_84  post (Rc) K90 h_83 x0 x1 x2 x3 x5)
def wl_X3_divideBy_23  (post : xH → Prop) (K90 : xH → Nat → Prop) : Nat → xH → Nat → Nat → Nat → Int64 → Int32 → Prop
  | 0, _, _, _, _, _, _ => False
  | n + 1, h, x0, x1, x2, x3, x5 => (x5 < 0 → K90 h x0) ∧ (¬ x5 < 0 → ∃ fs_32 : List Value, h x1 = some (.inr (3, fs_32)) ∧ ∃ v_32 : Int32, fs_32[1]? = some (.int v_32) ∧ ∃ fs_36 : List Value, h x0 = some (.inr (3, fs_36)) ∧ wp_X3_headBelow h  x0 (x5 + v_32) (fun (r_36 : Int64) => ¬ x3 = 0 ∧ ∀ (x6_42 : Int32), x6_42 = (((r_36 / x3) : Int64).toInt32) → (x6_42 ≤ 0 → wj_X3_divideBy_71  post (wl_X3_divideBy_23  post K90 n) K90 h x0 x1 x2 x3 x5 x6_42) ∧ (¬ x6_42 ≤ 0 → wp_X3_takesTooMuch h  x0 x1 x5 x6_42 (fun (r_55 : Int32) (h_55 : xH) => (r_55 = 0 → wj_X3_divideBy_71  post (wl_X3_divideBy_23  post K90 n) K90 h_55 x0 x1 x2 x3 x5 x6_42) ∧ (¬ r_55 = 0 → ∃ fs_65 : List Value, h_55 x0 = some (.inr (3, fs_65)) ∧ wp_X3_giveBack h_55  x0 x1 x5 (fun (h_65 : xH) => ∀ (x6_68 : Int32), x6_68 = x6_42 + (-1) → wj_X3_divideBy_71  post (wl_X3_divideBy_23  post K90 n) K90 h_65 x0 x1 x2 x3 x5 x6_68))))))
def wl_X3_divideBy_90  (post : xH → Prop) (K124 : xH → Prop) : Nat → xH → Nat → Prop
  | 0, _, _ => False
  | n + 1, h, x0 => ∃ fs_91 : List Value, h x0 = some (.inr (3, fs_91)) ∧ ∃ v_91 : Int32, fs_91[1]? = some (.int v_91) ∧ (v_91 ≤ 0 → K124 h) ∧ (¬ v_91 ≤ 0 → ∃ v_98 : Nat, fs_91[0]? = some (.ref v_98) ∧ ∃ (n_107 : Nat) (f_107 : Nat → Int32), h v_98 = some (.inl (0, n_107, .inl f_107)) ∧ vp_in (v_91 - 1) n_107 ∧ (¬ (f_107 ((v_91 - 1) : Int32).toNatClampNeg) = 0 → K124 h) ∧ ((f_107 ((v_91 - 1) : Int32).toNatClampNeg) = 0 → 1 < (fs_91 : List Value).length ∧ ∀ h_118 : xH, h_118 = x_up h x0 (.inr (3, (fs_91 : List Value).set 1 (.int (v_91 - 1)))) → wl_X3_divideBy_90  post K124 n h_118 x0))
def wj_X3_divideBy_124  (post : xH → Prop)  (h : xH) : Prop := post h
def wp_X3_divideBy (h0 : xH)  (x0 : Nat) (x1 : Nat) (x2 : Nat) (post : xH → Prop) : Prop := ∃ fs_1 : List Value, h0 x1 = some (.inr (3, fs_1)) ∧ wp_X3_head h0  x1 (fun (r_1 : Int64) => (¬ r_1 = 0 → ∃ fs_13 : List Value, h0 x0 = some (.inr (3, fs_13)) ∧ ∃ v_13 : Int32, fs_13[1]? = some (.int v_13) ∧ ∃ v_17 : Int32, fs_1[1]? = some (.int v_17) ∧ ∀ (x5_21 : Int32), x5_21 = (v_13 - v_17) → ∃ n23 : Nat, wl_X3_divideBy_23  post (fun (h : xH) (x0 : Nat) => ∃ n90 : Nat, wl_X3_divideBy_90  post (fun (h : xH) => wj_X3_divideBy_124  post  h) n90 h x0) n23 h0 x0 x1 x2 r_1 x5_21) ∧ (r_1 = 0 → post h0))
set_option maxHeartbeats 4000000 in
set_option maxRecDepth 100000 in
theorem mj_X3_divideBy_84 (C : CX p s m args meth c G RX3 cX3_divideBy 7 none) (h0 : xH) (post : xH → Prop) (Rc : xH → Nat → Nat → Nat → Int64 → Int32 → Prop) (K90 : xH → Nat → Prop)
    (hRc : (∀ (h : xH) (x0 : Nat) (x1 : Nat) (x2 : Nat) (x3 : Int64) (x5 : Int32) (H : Heap) (locs : List Loc) (ls : Array Slot) (nc ns : Nat), Rc h x0 x1 x2 x3 x5 → x_I G (x_A h0 s.heap.size) s.heap h H locs → nc + 0 ≤ 0 → ns + 0 ≤ 0 → lv_has ls 7 [(0, .ref x0), (1, .ref x1), (2, .ref x2), (3, .long x3), (5, .int x5)] → W p l e (rX3_divideBy) s m args below meth c H locs nc ns (MQ below (x_Qv G h0 s.heap.size post) args s 0 0 (x_A h0 s.heap.size)) (F0 m 23 ls [])))
    (hK90 : (∀ (h : xH) (x0 : Nat) (H : Heap) (locs : List Loc) (ls : Array Slot) (nc ns : Nat), K90 h x0 → x_I G (x_A h0 s.heap.size) s.heap h H locs → nc + 0 ≤ 0 → ns + 0 ≤ 0 → lv_has ls 7 [(0, .ref x0)] → W p l e (rX3_divideBy) s m args below meth c H locs nc ns (MQ below (x_Qv G h0 s.heap.size post) args s 0 0 (x_A h0 s.heap.size)) (F0 m 90 ls [])))
    (h : xH) (x0 : Nat) (x1 : Nat) (x2 : Nat) (x3 : Int64) (x5 : Int32) (H : Heap) (locs : List Loc) (ls : Array Slot) (nc ns : Nat) (hw : wj_X3_divideBy_84  post Rc K90 h x0 x1 x2 x3 x5) (hI : x_I G (x_A h0 s.heap.size) s.heap h H locs) (hkc : nc + 0 ≤ 0) (hks : ns + 0 ≤ 0) (hl : lv_has ls 7 [(0, .ref x0), (1, .ref x1), (2, .ref x2), (3, .long x3), (5, .int x5)]) : W p l e (rX3_divideBy) s m args below meth c H locs nc ns (MQ below (x_Qv G h0 s.heap.size post) args s 0 0 (x_A h0 s.heap.size)) (F0 m 84 ls []) := by
  obtain ⟨hx, hb, hr, hml, hown, hg, hlocks, hK⟩ := id C
  unfold wj_X3_divideBy_84 at hw
  obtain ⟨x5_84, ex5_84⟩ : ∃ y : Int32, y = x5 + (-1) := ⟨_, rfl⟩
  have hw := hw x5_84 ex5_84
  refine lv_iinc (v := x5_84) (lv' := [(5, .int x5_84), (0, .ref x0), (1, .ref x1), (2, .ref x2), (3, .long x3)]) hx hb dX3_divideBy_84 hl (k := 4) rfl (by rw [ex5_84]; rfl) (by decide) rfl (fun ls hl => ?_)
  refine lv_goto (tgt := 23) hx hb dX3_divideBy_87 (by decide) ?_
  exact hRc _ _ _ _ _ _ _ _ _ _ _ hw hI (by omega) (by omega) (lv_sub hl [1, 2, 3, 4, 0] rfl)
set_option maxHeartbeats 4000000 in
set_option maxRecDepth 100000 in
theorem mj_X3_divideBy_71 (C : CX p s m args meth c G RX3 cX3_divideBy 7 none) (h0 : xH) (post : xH → Prop) (Rc : xH → Nat → Nat → Nat → Int64 → Int32 → Prop) (K90 : xH → Nat → Prop)
    (hRc : (∀ (h : xH) (x0 : Nat) (x1 : Nat) (x2 : Nat) (x3 : Int64) (x5 : Int32) (H : Heap) (locs : List Loc) (ls : Array Slot) (nc ns : Nat), Rc h x0 x1 x2 x3 x5 → x_I G (x_A h0 s.heap.size) s.heap h H locs → nc + 0 ≤ 0 → ns + 0 ≤ 0 → lv_has ls 7 [(0, .ref x0), (1, .ref x1), (2, .ref x2), (3, .long x3), (5, .int x5)] → W p l e (rX3_divideBy) s m args below meth c H locs nc ns (MQ below (x_Qv G h0 s.heap.size post) args s 0 0 (x_A h0 s.heap.size)) (F0 m 23 ls [])))
    (hK90 : (∀ (h : xH) (x0 : Nat) (H : Heap) (locs : List Loc) (ls : Array Slot) (nc ns : Nat), K90 h x0 → x_I G (x_A h0 s.heap.size) s.heap h H locs → nc + 0 ≤ 0 → ns + 0 ≤ 0 → lv_has ls 7 [(0, .ref x0)] → W p l e (rX3_divideBy) s m args below meth c H locs nc ns (MQ below (x_Qv G h0 s.heap.size post) args s 0 0 (x_A h0 s.heap.size)) (F0 m 90 ls [])))
    (h : xH) (x0 : Nat) (x1 : Nat) (x2 : Nat) (x3 : Int64) (x5 : Int32) (x6 : Int32) (H : Heap) (locs : List Loc) (ls : Array Slot) (nc ns : Nat) (hw : wj_X3_divideBy_71  post Rc K90 h x0 x1 x2 x3 x5 x6) (hI : x_I G (x_A h0 s.heap.size) s.heap h H locs) (hkc : nc + 0 ≤ 0) (hks : ns + 0 ≤ 0) (hl : lv_has ls 7 [(0, .ref x0), (1, .ref x1), (2, .ref x2), (3, .long x3), (5, .int x5), (6, .int x6)]) : W p l e (rX3_divideBy) s m args below meth c H locs nc ns (MQ below (x_Qv G h0 s.heap.size post) args s 0 0 (x_A h0 s.heap.size)) (F0 m 71 ls []) := by
  obtain ⟨hx, hb, hr, hml, hown, hg, hlocks, hK⟩ := id C
  unfold wj_X3_divideBy_71 at hw
  refine lv_iload hx hb dX3_divideBy_71 (lv_at hl 4 rfl) ?_
  refine lv_aload_n hx hb dX3_divideBy_73 rfl (lv_at hl 2 rfl) ?_
  obtain ⟨n_74, f_74, he_74, hw⟩ := hw
  refine x_alen hx hb hK hI he_74 rfl dX3_divideBy_74 ?_
  refine W.eq (g2 := F0 m 75 ls (.int (nI n_74) :: .int x5 :: [])) rfl ?_
  refine lv_icmp_ge (tgt := 84) hx hb dX3_divideBy_75 (by decide) (fun hc75 => ?_) (fun hc75 => ?_)
  · have hw := hw.1 hc75
    exact mj_X3_divideBy_84 C h0 post _ _ (hRc) hK90 _ _ _ _ _ _ _ _ _ _ _ hw hI (by omega) (by omega) (lv_sub hl [0, 1, 2, 3, 4] rfl)
  · have hw := hw.2 hc75
    refine lv_aload_n hx hb dX3_divideBy_78 rfl (lv_at hl 2 rfl) ?_
    refine lv_iload hx hb dX3_divideBy_79 (lv_at hl 4 rfl) ?_
    refine lv_iload hx hb dX3_divideBy_81 (lv_at hl 5 rfl) ?_
    obtain ⟨hi83, hw⟩ := hw
    refine x_iast hx hb hK hI he_74 hi83 dX3_divideBy_83 (fun H locs hI => ?_)
    obtain ⟨h_83, eh_83⟩ : ∃ z : xH, z = x_up h x2 (.inl (0, n_74, .inl (upd f_74 (x5 : Int32).toNatClampNeg x6))) := ⟨_, rfl⟩
    rw [← eh_83] at hI
    have hw := hw h_83 eh_83
    have heh_83 : h_83 x2 = some (.inl (0, n_74, .inl (upd f_74 (x5 : Int32).toNatClampNeg x6))) := by rw [eh_83]; exact x_up_s
    exact mj_X3_divideBy_84 C h0 post _ _ (hRc) hK90 _ _ _ _ _ _ _ _ _ _ _ hw hI (by omega) (by omega) (lv_sub hl [0, 1, 2, 3, 4] rfl)
set_option maxHeartbeats 4000000 in
set_option maxRecDepth 100000 in
theorem ml_X3_divideBy_23 (C : CX p s m args meth c G RX3 cX3_divideBy 7 none) (h0 : xH) (post : xH → Prop) (K90 : xH → Nat → Prop)
    (hK90 : (∀ (h : xH) (x0 : Nat) (H : Heap) (locs : List Loc) (ls : Array Slot) (nc ns : Nat), K90 h x0 → x_I G (x_A h0 s.heap.size) s.heap h H locs → nc + 0 ≤ 0 → ns + 0 ≤ 0 → lv_has ls 7 [(0, .ref x0)] → W p l e (rX3_divideBy) s m args below meth c H locs nc ns (MQ below (x_Qv G h0 s.heap.size post) args s 0 0 (x_A h0 s.heap.size)) (F0 m 90 ls []))) :
    ∀ (n : Nat) (h : xH) (x0 : Nat) (x1 : Nat) (x2 : Nat) (x3 : Int64) (x5 : Int32) (H : Heap) (locs : List Loc) (ls : Array Slot) (nc ns : Nat), wl_X3_divideBy_23  post K90 n h x0 x1 x2 x3 x5 → x_I G (x_A h0 s.heap.size) s.heap h H locs → nc + 0 ≤ 0 → ns + 0 ≤ 0 → lv_has ls 7 [(0, .ref x0), (1, .ref x1), (2, .ref x2), (3, .long x3), (5, .int x5)] → W p l e (rX3_divideBy) s m args below meth c H locs nc ns (MQ below (x_Qv G h0 s.heap.size post) args s 0 0 (x_A h0 s.heap.size)) (F0 m 23 ls []) := by
  obtain ⟨hx, hb, hr, hml, hown, hg, hlocks, hK⟩ := id C
  intro n
  induction n with
  | zero => intro h x0 x1 x2 x3 x5 H locs ls nc ns hw; exact absurd hw id
  | succ n ih =>
    intro h x0 x1 x2 x3 x5 H locs ls nc ns hw hI hkc hks hl
    refine lv_iload hx hb dX3_divideBy_23 (lv_at hl 4 rfl) ?_
    refine lv_if_lt (tgt := 90) hx hb dX3_divideBy_25 (by decide) (fun hc25 => ?_) (fun hc25 => ?_)
    · have hw := hw.1 hc25
      exact hK90 _ _ _ _ _ _ _ hw hI (by omega) (by omega) (lv_sub hl [0] rfl)
    · have hw := hw.2 hc25
      refine lv_aload_n hx hb dX3_divideBy_28 rfl (lv_at hl 0 rfl) ?_
      refine lv_iload hx hb dX3_divideBy_29 (lv_at hl 4 rfl) ?_
      refine lv_aload_n hx hb dX3_divideBy_31 rfl (lv_at hl 1 rfl) ?_
      obtain ⟨fs_32, he_32, hw⟩ := hw
      obtain ⟨v_32, hv_32, hw⟩ := hw
      refine x_get (ci := 3) (C := RX3) (T := TX3) (N := 2) hx hb hg ku_X3 hown hK hI he_32 rfl 1 (by decide) (hg _ kf_X3_23) (fun _ h9 => h9) hv_32 dX3_divideBy_32 ?_
      refine lv_iadd hx hb dX3_divideBy_35 ?_
      obtain ⟨fs_36, he_36, hw⟩ := hw
      refine x_cl (va_runV (As := [.int (x5 + v_32)]) (rest := []) ⟨hx, hb, hml, hown, hg⟩ (m_X3_headBelow l G h  x0 (x5 + v_32) _ hw H.size) (cwV 1 hg (x_gV km_X3_33 ki_X3_headBelow kz_X3_X3_headBelow kn_X3 kk_X3_headBelow) rfl rfl rfl (by decide +kernel) ⟨Nat.le_of_ble_eq_true rfl, Nat.le_of_ble_eq_true rfl⟩) ⟨x_blind, x_recv hI hK he_36 rfl rfl, x_pre hI hK⟩ rfl rfl hl.1 rfl (lv_room (Nat.le_of_ble_eq_true rfl)) dX3_divideBy_36 ⟨show nc + 0 ≤ 0 by omega, show ns + 0 ≤ 0 by omega⟩) hI (fun r_36 h_36 H locs hw hI => ?_)
      obtain ⟨eh_36, hw⟩ := hw
      rw [eh_36] at hI
      refine lv_lload_n hx hb dX3_divideBy_39 rfl (lv_at hl 3 rfl) ?_
      obtain ⟨hne40, hw⟩ := hw
      refine lv_ldiv hx hb dX3_divideBy_40 hne40 ?_
      refine lv_l2i (v := ((r_36 / x3) : Int64).toInt32) hx hb dX3_divideBy_41 rfl ?_
      refine lv_topi (fun x6_42 ex6_42 => ?_)
      have hw := hw x6_42 ex6_42
      refine lv_istore (lv' := [(6, .int x6_42), (0, .ref x0), (1, .ref x1), (2, .ref x2), (3, .long x3), (5, .int x5)]) hx hb dX3_divideBy_42 hl (by decide) rfl (fun ls hl => ?_)
      refine lv_iload hx hb dX3_divideBy_44 (lv_at hl 0 rfl) ?_
      refine lv_if_le (tgt := 71) hx hb dX3_divideBy_46 (by decide) (fun hc46 => ?_) (fun hc46 => ?_)
      · have hw := hw.1 hc46
        exact mj_X3_divideBy_71 C h0 post _ _ (ih) hK90 _ _ _ _ _ _ _ _ _ _ _ _ hw hI (by omega) (by omega) (lv_sub hl [1, 2, 3, 4, 5, 0] rfl)
      · have hw := hw.2 hc46
        refine lv_aload_n hx hb dX3_divideBy_49 rfl (lv_at hl 1 rfl) ?_
        refine lv_aload_n hx hb dX3_divideBy_50 rfl (lv_at hl 2 rfl) ?_
        refine lv_iload hx hb dX3_divideBy_51 (lv_at hl 5 rfl) ?_
        refine lv_iload hx hb dX3_divideBy_53 (lv_at hl 0 rfl) ?_
        refine x_ci (va_runV (As := [.ref x1, .int x5, .int x6_42]) (rest := []) ⟨hx, hb, hml, hown, hg⟩ (m_X3_takesTooMuch l G h  x0 x1 x5 x6_42 _ hw H.size) (cwV 3 hg (x_gV km_X3_37 ki_X3_takesTooMuch kz_X3_X3_takesTooMuch kn_X3 kk_X3_takesTooMuch) rfl rfl rfl (by decide +kernel) ⟨Nat.le_of_ble_eq_true rfl, Nat.le_of_ble_eq_true rfl⟩) ⟨x_blind, x_recv hI hK he_36 rfl rfl, x_pre hI hK⟩ rfl rfl hl.1 rfl (lv_room (Nat.le_of_ble_eq_true rfl)) dX3_divideBy_55 ⟨show nc + 0 + 0 ≤ 0 by omega, show ns + 0 + 0 ≤ 0 by omega⟩) hI (fun r_55 h_55 H locs hw hI => ?_)
        refine lv_if_eq (tgt := 71) hx hb dX3_divideBy_58 (by decide) (fun hc58 => ?_) (fun hc58 => ?_)
        · have hw := hw.1 hc58
          exact mj_X3_divideBy_71 C h0 post _ _ (ih) hK90 _ _ _ _ _ _ _ _ _ _ _ _ hw hI (by omega) (by omega) (lv_sub hl [1, 2, 3, 4, 5, 0] rfl)
        · have hw := hw.2 hc58
          refine lv_aload_n hx hb dX3_divideBy_61 rfl (lv_at hl 1 rfl) ?_
          refine lv_aload_n hx hb dX3_divideBy_62 rfl (lv_at hl 2 rfl) ?_
          refine lv_iload hx hb dX3_divideBy_63 (lv_at hl 5 rfl) ?_
          obtain ⟨fs_65, he_65, hw⟩ := hw
          refine x_cv (va_runV (As := [.ref x1, .int x5]) (rest := []) ⟨hx, hb, hml, hown, hg⟩ (m_X3_giveBack l G h_55  x0 x1 x5 _ hw H.size) (cwV 2 hg (x_gV km_X3_41 ki_X3_giveBack kz_X3_X3_giveBack kn_X3 kk_X3_giveBack) rfl rfl rfl (by decide +kernel) ⟨Nat.le_of_ble_eq_true rfl, Nat.le_of_ble_eq_true rfl⟩) ⟨x_blind, x_recv hI hK he_65 rfl rfl, x_pre hI hK⟩ rfl rfl hl.1 rfl (lv_room (Nat.le_of_ble_eq_true rfl)) dX3_divideBy_65 ⟨show nc + 0 + 0 + 0 ≤ 0 by omega, show ns + 0 + 0 + 0 ≤ 0 by omega⟩) hI (fun h_65 H locs hw hI => ?_)
          obtain ⟨x6_68, ex6_68⟩ : ∃ y : Int32, y = x6_42 + (-1) := ⟨_, rfl⟩
          have hw := hw x6_68 ex6_68
          refine lv_iinc (v := x6_68) (lv' := [(6, .int x6_68), (0, .ref x0), (1, .ref x1), (2, .ref x2), (3, .long x3), (5, .int x5)]) hx hb dX3_divideBy_68 hl (k := 0) rfl (by rw [ex6_68]; rfl) (by decide) rfl (fun ls hl => ?_)
          exact mj_X3_divideBy_71 C h0 post _ _ (ih) hK90 _ _ _ _ _ _ _ _ _ _ _ _ hw hI (by omega) (by omega) (lv_sub hl [1, 2, 3, 4, 5, 0] rfl)
set_option maxHeartbeats 4000000 in
set_option maxRecDepth 100000 in
theorem ml_X3_divideBy_90 (C : CX p s m args meth c G RX3 cX3_divideBy 7 none) (h0 : xH) (post : xH → Prop) (K124 : xH → Prop)
    (hK124 : (∀ (h : xH) (H : Heap) (locs : List Loc) (ls : Array Slot) (nc ns : Nat), K124 h → x_I G (x_A h0 s.heap.size) s.heap h H locs → nc + 0 ≤ 0 → ns + 0 ≤ 0 → lv_has ls 7 [] → W p l e (rX3_divideBy) s m args below meth c H locs nc ns (MQ below (x_Qv G h0 s.heap.size post) args s 0 0 (x_A h0 s.heap.size)) (F0 m 124 ls []))) :
    ∀ (n : Nat) (h : xH) (x0 : Nat) (H : Heap) (locs : List Loc) (ls : Array Slot) (nc ns : Nat), wl_X3_divideBy_90  post K124 n h x0 → x_I G (x_A h0 s.heap.size) s.heap h H locs → nc + 0 ≤ 0 → ns + 0 ≤ 0 → lv_has ls 7 [(0, .ref x0)] → W p l e (rX3_divideBy) s m args below meth c H locs nc ns (MQ below (x_Qv G h0 s.heap.size post) args s 0 0 (x_A h0 s.heap.size)) (F0 m 90 ls []) := by
  obtain ⟨hx, hb, hr, hml, hown, hg, hlocks, hK⟩ := id C
  intro n
  induction n with
  | zero => intro h x0 H locs ls nc ns hw; exact absurd hw id
  | succ n ih =>
    intro h x0 H locs ls nc ns hw hI hkc hks hl
    refine lv_aload_n hx hb dX3_divideBy_90 rfl (lv_at hl 0 rfl) ?_
    obtain ⟨fs_91, he_91, hw⟩ := hw
    obtain ⟨v_91, hv_91, hw⟩ := hw
    refine x_get (ci := 3) (C := RX3) (T := TX3) (N := 2) hx hb hg ku_X3 hown hK hI he_91 rfl 1 (by decide) (hg _ kf_X3_23) (fun _ h9 => h9) hv_91 dX3_divideBy_91 ?_
    refine lv_if_le (tgt := 124) hx hb dX3_divideBy_94 (by decide) (fun hc94 => ?_) (fun hc94 => ?_)
    · have hw := hw.1 hc94
      exact hK124 _ _ _ _ _ _ hw hI (by omega) (by omega) (lv_sub hl [] rfl)
    · have hw := hw.2 hc94
      refine lv_aload_n hx hb dX3_divideBy_97 rfl (lv_at hl 0 rfl) ?_
      obtain ⟨v_98, hv_98, hw⟩ := hw
      refine x_get (ci := 3) (C := RX3) (T := TX3) (N := 2) hx hb hg ku_X3 hown hK hI he_91 rfl 0 (by decide) (hg _ kf_X3_13) (fun _ h9 => h9) hv_98 dX3_divideBy_98 ?_
      refine lv_aload_n hx hb dX3_divideBy_101 rfl (lv_at hl 0 rfl) ?_
      refine x_get (ci := 3) (C := RX3) (T := TX3) (N := 2) hx hb hg ku_X3 hown hK hI he_91 rfl 1 (by decide) (hg _ kf_X3_23) (fun _ h9 => h9) hv_91 dX3_divideBy_102 ?_
      refine lv_iconst (v := 1) hx hb dX3_divideBy_105 (by decide) ?_
      refine lv_isub hx hb dX3_divideBy_106 ?_
      obtain ⟨n_107, f_107, he_107, hw⟩ := hw
      obtain ⟨hi107, hw⟩ := hw
      refine x_iald hx hb hK hI he_107 hi107 dX3_divideBy_107 ?_
      refine lv_if_ne (tgt := 124) hx hb dX3_divideBy_108 (by decide) (fun hc108 => ?_) (fun hc108 => ?_)
      · have hw := hw.1 hc108
        exact hK124 _ _ _ _ _ _ hw hI (by omega) (by omega) (lv_sub hl [] rfl)
      · have hw := hw.2 hc108
        refine lv_aload_n hx hb dX3_divideBy_111 rfl (lv_at hl 0 rfl) ?_
        refine lv_dup hx hb dX3_divideBy_112 rfl ?_
        refine x_get (ci := 3) (C := RX3) (T := TX3) (N := 2) hx hb hg ku_X3 hown hK hI he_91 rfl 1 (by decide) (hg _ kf_X3_23) (fun _ h9 => h9) hv_91 dX3_divideBy_113 ?_
        refine lv_iconst (v := 1) hx hb dX3_divideBy_116 (by decide) ?_
        refine lv_isub hx hb dX3_divideBy_117 ?_
        obtain ⟨hlen118, hw⟩ := hw
        refine x_put (ci := 3) (v := .int (v_91 - 1)) (ty := .int) (C := RX3) (T := TX3) (N := 2) hx hb hg ku_X3 tyX3 tyX3_ok nmX3 hown hK hI he_91 rfl 1 (by decide) (hg _ kf_X3_23) (fun _ h9 => h9) rfl (by decide +kernel) rfl rfl hlen118 dX3_divideBy_118 (fun H locs hI => ?_)
        have hI : x_I G (x_A h0 s.heap.size) s.heap (x_up h x0 (.inr (3, (fs_91 : List Value).set 1 (.int (v_91 - 1))))) H locs := hI
        obtain ⟨h_118, eh_118⟩ : ∃ z : xH, z = x_up h x0 (.inr (3, (fs_91 : List Value).set 1 (.int (v_91 - 1)))) := ⟨_, rfl⟩
        rw [← eh_118] at hI
        have hw := hw h_118 eh_118
        have heh_118 : h_118 x0 = some (.inr (3, (fs_91 : List Value).set 1 (.int (v_91 - 1)))) := by rw [eh_118]; exact x_up_s
        refine lv_goto (tgt := 90) hx hb dX3_divideBy_121 (by decide) ?_
        exact ih _ _ _ _ _ _ _ hw hI (by omega) (by omega) (lv_sub hl [0] rfl)
set_option maxHeartbeats 4000000 in
set_option maxRecDepth 100000 in
theorem mj_X3_divideBy_124 (C : CX p s m args meth c G RX3 cX3_divideBy 7 none) (h0 : xH) (post : xH → Prop) 
    
    (h : xH) (H : Heap) (locs : List Loc) (ls : Array Slot) (nc ns : Nat) (hw : wj_X3_divideBy_124  post  h) (hI : x_I G (x_A h0 s.heap.size) s.heap h H locs) (hkc : nc + 0 ≤ 0) (hks : ns + 0 ≤ 0) (hl : lv_has ls 7 []) : W p l e (rX3_divideBy) s m args below meth c H locs nc ns (MQ below (x_Qv G h0 s.heap.size post) args s 0 0 (x_A h0 s.heap.size)) (F0 m 124 ls []) := by
  obtain ⟨hx, hb, hr, hml, hown, hg, hlocks, hK⟩ := id C
  unfold wj_X3_divideBy_124 at hw
  exact x_vret hx hb hr hlocks hI hw (by omega) (by omega) dX3_divideBy_124
set_option maxHeartbeats 4000000 in
set_option maxRecDepth 100000 in
theorem m_X3_divideBy (l : Launch) (G : xG) (h0 : xH)  (x0 : Nat) (x1 : Nat) (x2 : Nat) (post : xH → Prop) (hw : wp_X3_divideBy h0  x0 x1 x2 post) (sz : Nat) : Met l yX3_divideBy (wu yX3_divideBy cX3_divideBy 7 none) (rX3_divideBy) (x_Pc G [.ref x0, .ref x1, .ref x2] h0 sz) (x_Qv G h0 sz post) 0 0 (x_A h0 sz) := by
  refine Met.ofW (cc := cX3_divideBy) (maxL := 7) (ret := none) (by decide) rfl ?_
  intro p e s m args below meth c s₁ B hml hv
  obtain ⟨rfl, hsz, hR, hK⟩ := hv
  subst hsz
  have C : CX p s m _ meth c G RX3 cX3_divideBy 7 none := ⟨B.exec, B.bytes, B.returns, hml, findClass_of_methodNamed B.named, x_hg (atoms_spec (ws := wu yX3_divideBy cX3_divideBy 7 none) B.pre), B.notSynchronized, hK⟩
  obtain ⟨hx, hb, hr, hml, hown, hg, hlocks, hK⟩ := id C
  have hI : x_I G (x_A h0 s.heap.size) s.heap h0 s.heap [] := x_I.start hR
  have hkc : 0 + 0 ≤ 0 := by omega
  have hks : 0 + 0 ≤ 0 := by omega
  have hl := lv_entry ([.ref x0, .ref x1, .ref x2]) (n := 7) (Nat.le_of_ble_eq_true rfl)
  rw [lg_entry_eq]
  generalize (lg_sl ([.ref x0, .ref x1, .ref x2]) ++ List.replicate (7 - (lg_sl ([.ref x0, .ref x1, .ref x2])).length) Slot.unset).toArray = ls at hl ⊢
  have hl : lv_has ls 7 [(0, .ref x0), (1, .ref x1), (2, .ref x2)] := hl
  unfold wp_X3_divideBy at hw
  refine lv_aload_n hx hb dX3_divideBy_0 rfl (lv_at hl 1 rfl) ?_
  obtain ⟨fs_1, he_1, hw⟩ := hw
  refine x_cl (va_runV (As := []) (rest := []) ⟨hx, hb, hml, hown, hg⟩ (m_X3_head l G h0  x1 _ hw s.heap.size) (cwV 0 hg (x_gV km_X3_29 ki_X3_head kz_X3_X3_head kn_X3 kk_X3_head) rfl rfl rfl (by decide +kernel) ⟨Nat.le_of_ble_eq_true rfl, Nat.le_of_ble_eq_true rfl⟩) ⟨x_blind, x_recv hI hK he_1 rfl rfl, x_pre hI hK⟩ rfl rfl hl.1 rfl (lv_room (Nat.le_of_ble_eq_true rfl)) dX3_divideBy_1 ⟨show 0 + 0 ≤ 0 by omega, show 0 + 0 ≤ 0 by omega⟩) hI (fun r_1 h_1 H locs hw hI => ?_)
  obtain ⟨eh_1, hw⟩ := hw
  rw [eh_1] at hI
  refine lv_lstore_n (lv' := [(3, .long r_1), (0, .ref x0), (1, .ref x1), (2, .ref x2)]) hx hb dX3_divideBy_4 rfl hl (by decide) rfl (fun ls hl => ?_)
  refine lv_lload_n hx hb dX3_divideBy_5 rfl (lv_at hl 0 rfl) ?_
  refine lv_lconst (v := 0) hx hb dX3_divideBy_6 (by decide) ?_
  refine W.lcmp hx hb dX3_divideBy_7 ?_
  refine lv_if_ne (tgt := 12) hx hb dX3_divideBy_8 (by decide) (fun hc8 => ?_) (fun hc8 => ?_)
  · have hw := hw.1 (fun z => hc8 ((lg_cmp_eq _ _).mpr z))
    refine lv_aload_n hx hb dX3_divideBy_12 rfl (lv_at hl 1 rfl) ?_
    obtain ⟨fs_13, he_13, hw⟩ := hw
    obtain ⟨v_13, hv_13, hw⟩ := hw
    refine x_get (ci := 3) (C := RX3) (T := TX3) (N := 2) hx hb hg ku_X3 hown hK hI he_13 rfl 1 (by decide) (hg _ kf_X3_23) (fun _ h9 => h9) hv_13 dX3_divideBy_13 ?_
    refine lv_aload_n hx hb dX3_divideBy_16 rfl (lv_at hl 2 rfl) ?_
    obtain ⟨v_17, hv_17, hw⟩ := hw
    refine x_get (ci := 3) (C := RX3) (T := TX3) (N := 2) hx hb hg ku_X3 hown hK hI he_1 rfl 1 (by decide) (hg _ kf_X3_23) (fun _ h9 => h9) hv_17 dX3_divideBy_17 ?_
    refine lv_isub hx hb dX3_divideBy_20 ?_
    refine lv_topi (fun x5_21 ex5_21 => ?_)
    have hw := hw x5_21 ex5_21
    refine lv_istore (lv' := [(5, .int x5_21), (3, .long r_1), (0, .ref x0), (1, .ref x1), (2, .ref x2)]) hx hb dX3_divideBy_21 hl (by decide) rfl (fun ls hl => ?_)
    obtain ⟨n23, hw⟩ := hw
    refine ml_X3_divideBy_23 C h0 post _ ?_ n23 _ _ _ _ _ _ _ _ _ _ _ hw hI (by omega) (by omega) (lv_sub hl [2, 3, 4, 1, 0] rfl)
    · intro h x0 H locs ls nc ns hw hI hkc hks hl
      obtain ⟨n90, hw⟩ := hw
      refine ml_X3_divideBy_90 C h0 post _ ?_ n90 _ _ _ _ _ _ _ hw hI (by omega) (by omega) (lv_sub hl [0] rfl)
      · intro h H locs ls nc ns hw hI hkc hks hl
        exact mj_X3_divideBy_124 C h0 post  _ _ _ _ _ _ hw hI (by omega) (by omega) (lv_sub hl [] rfl)
  · have hw := hw.2 ((lg_cmp_eq _ _).mp hc8)
    exact x_vret hx hb hr hlocks hI hw (by omega) (by omega) dX3_divideBy_11
-- ===== ExactFilter$Whole.dividedBy
abbrev rX5_dividedBy (mc ms : Nat) : Room := { frames := 5, cells := mc, slots := ms, locals := 123 }
def wj_X5_dividedBy_18  (post : Nat → xH → Prop)  (h : xH) (kc : Nat) (ks : Nat) : Prop := 1 ≤ kc ∧ 3 ≤ ks ∧ ∀ q_18 : Nat, x_fresh h q_18 → ∀ h_18 : xH, h_18 = x_up h q_18 (.inr (5, [.int 0, .null, .int 0])) → ¬ (0 : Int32) < 0 ∧ ∀ z_24 : Nat, (0 : Int32).toNatClampNeg = z_24 → z_24 ≤ 60000000 ∧ 1 ≤ (kc - 1) ∧ z_24 ≤ (ks - 3) ∧ ∀ q_24 : Nat, x_fresh h_18 q_24 → ∀ h_24 : xH, h_24 = x_up h_18 q_24 (.inl (0, z_24, .inl (fun _ => 0))) → wp_X5_init h_24  q_18 0 q_24 (fun (h_26 : xH) => post q_18 h_26)
def wp_X5_dividedBy (h0 : xH) (mc ms : Nat) (x0 : Nat) (x1 : Nat) (post : Nat → xH → Prop) : Prop := ∃ fs_1 : List Value, h0 x1 = some (.inr (5, fs_1)) ∧ ∃ v_1 : Int32, fs_1[0]? = some (.int v_1) ∧ (v_1 = 0 → wj_X5_dividedBy_18  post  h0 mc ms) ∧ (¬ v_1 = 0 → ∃ fs_8 : List Value, h0 x0 = some (.inr (5, fs_8)) ∧ ∃ v_8 : Int32, fs_8[2]? = some (.int v_8) ∧ ∃ v_12 : Int32, fs_1[2]? = some (.int v_12) ∧ (v_12 ≤ v_8 → ¬ (((v_8 - v_12) + 1) : Int32) < 0 ∧ ∀ z_41 : Nat, (((v_8 - v_12) + 1) : Int32).toNatClampNeg = z_41 → z_41 ≤ 60000000 ∧ 1 ≤ mc ∧ z_41 ≤ ms ∧ ∀ q_41 : Nat, x_fresh h0 q_41 → ∀ h_41 : xH, h_41 = x_up h0 q_41 (.inl (0, z_41, .inl (fun _ => 0))) → 1 ≤ (mc - 1) ∧ 2 ≤ (ms - z_41) ∧ ∀ q_44 : Nat, x_fresh h_41 q_44 → ∀ h_44 : xH, h_44 = x_up h_41 q_44 (.inr (3, [.null, .int 0])) → ∃ mc_49 ms_49 : Nat, mc_49 ≤ ((mc - 1) - 1) ∧ ms_49 ≤ ((ms - z_41) - 2) ∧ wp_X3_init h_44 mc_49 ms_49 q_44 x0 (fun (h_49 : xH) => 1 ≤ (((mc - 1) - 1) - mc_49) ∧ 2 ≤ (((ms - z_41) - 2) - ms_49) ∧ ∀ q_52 : Nat, x_fresh h_49 q_52 → ∀ h_52 : xH, h_52 = x_up h_49 q_52 (.inr (3, [.null, .int 0])) → ∃ mc_57 ms_57 : Nat, mc_57 ≤ ((((mc - 1) - 1) - mc_49) - 1) ∧ ms_57 ≤ ((((ms - z_41) - 2) - ms_49) - 2) ∧ wp_X3_init h_52 mc_57 ms_57 q_52 x1 (fun (h_57 : xH) => ∃ fs_61 : List Value, h_57 q_44 = some (.inr (3, fs_61)) ∧ wp_X3_divideBy h_57  q_44 q_52 q_41 (fun (h_61 : xH) => 1 ≤ (((((mc - 1) - 1) - mc_49) - 1) - mc_57) ∧ 3 ≤ (((((ms - z_41) - 2) - ms_49) - 2) - ms_57) ∧ ∀ q_64 : Nat, x_fresh h_61 q_64 → ∀ h_64 : xH, h_64 = x_up h_61 q_64 (.inr (5, [.int 0, .null, .int 0])) → ∃ fs_69 : List Value, h_64 x0 = some (.inr (5, fs_69)) ∧ ∃ v_69 : Int32, fs_69[0]? = some (.int v_69) ∧ ∃ fs_73 : List Value, h_64 x1 = some (.inr (5, fs_73)) ∧ ∃ v_73 : Int32, fs_73[0]? = some (.int v_73) ∧ wp_X5_init h_64  q_64 (v_69 * v_73) q_41 (fun (h_78 : xH) => post q_64 h_78))))) ∧ (¬ v_12 ≤ v_8 → wj_X5_dividedBy_18  post  h0 mc ms))
set_option maxHeartbeats 4000000 in
set_option maxRecDepth 100000 in
theorem mj_X5_dividedBy_18 (C : CX p s m args meth c G RX5 cX5_dividedBy 3 (some (.object "ExactFilter$Whole"))) (h0 : xH) (mc ms : Nat) (post : Nat → xH → Prop) 
    
    (h : xH) (kc : Nat) (ks : Nat) (H : Heap) (locs : List Loc) (ls : Array Slot) (nc ns : Nat) (hw : wj_X5_dividedBy_18  post  h kc ks) (hI : x_I G (x_A h0 s.heap.size) s.heap h H locs) (hkc : nc + kc ≤ mc) (hks : ns + ks ≤ ms) (hl : lv_has ls 3 []) : W p l e (rX5_dividedBy mc ms) s m args below meth c H locs nc ns (MQ below (x_Qr G h0 s.heap.size post) args s mc ms (x_A h0 s.heap.size)) (F0 m 18 ls []) := by
  obtain ⟨hx, hb, hr, hml, hown, hg, hlocks, hK⟩ := id C
  unfold wj_X5_dividedBy_18 at hw
  obtain ⟨hkc1, hks1, hw⟩ := hw
  refine x_new (ci := 5) (fs := [.int 0, .null, .int 0]) (C := RX5) (T := TX5) (N := 3) hx hb hg ku_X5 tyX5 tyX5_ok hown (hg _ kl_X5_8) (hg _ kt_X5) (hg _ kn_X5) hK hI rfl (by decide +kernel) (show nc + 1 ≤ mc by omega) (show ns + 3 ≤ ms by omega) dX5_dividedBy_18 (fun q_18 H hfr18 hI => ?_)
  have hw := hw q_18 hfr18
  obtain ⟨h_18, eh_18⟩ : ∃ z : xH, z = x_up h q_18 (.inr (5, [.int 0, .null, .int 0])) := ⟨_, rfl⟩
  rw [← eh_18] at hI
  have hw := hw h_18 eh_18
  have heh_18 : h_18 q_18 = some (.inr (5, [.int 0, .null, .int 0])) := by rw [eh_18]; exact x_up_s
  refine lv_dup hx hb dX5_dividedBy_21 rfl ?_
  refine lv_iconst (v := 0) hx hb dX5_dividedBy_22 (by decide) ?_
  refine lv_iconst (v := 0) hx hb dX5_dividedBy_23 (by decide) ?_
  obtain ⟨hneg24, hw⟩ := hw
  obtain ⟨z_24, hz24⟩ : ∃ z : Nat, (0 : Int32).toNatClampNeg = z := ⟨_, rfl⟩
  obtain ⟨hz224, hkc1, hks1, hw⟩ := hw z_24 hz24
  refine x_newi hx hb (hg _ ka_int) hK hI hneg24 hz24 (by omega) (show nc + 1 + 1 ≤ mc by omega) (show ns + 3 + z_24 ≤ ms by omega) dX5_dividedBy_24 (fun q_24 H hfr24 hI => ?_)
  have hw := hw q_24 hfr24
  obtain ⟨h_24, eh_24⟩ : ∃ z : xH, z = x_up h_18 q_24 (.inl (0, z_24, .inl (fun _ => 0))) := ⟨_, rfl⟩
  rw [← eh_24] at hI
  have hw := hw h_24 eh_24
  have heh_24 : h_24 q_24 = some (.inl (0, z_24, .inl (fun _ => 0))) := by rw [eh_24]; exact x_up_s
  refine x_cv (va_runI (As := [.int 0, .ref q_24]) (rest := [.ref q_18]) ⟨hx, hb, hml, hown, hg⟩ (m_X5_init l G h_24  q_18 0 q_24 _ hw H.size) (cwI 2 hg (x_gI kk_X5_init) rfl rfl rfl (hg _ kn_X5) (hg _ km_X5_21) (hg _ ki_X5_init) rfl (by decide +kernel) ⟨Nat.le_of_ble_eq_true rfl, Nat.le_of_ble_eq_true rfl⟩) ⟨x_blind, x_pre hI hK⟩ rfl rfl hl.1 rfl (lv_room (Nat.le_of_ble_eq_true rfl)) dX5_dividedBy_26 ⟨show nc + 1 + 1 + 0 ≤ mc by omega, show ns + 3 + z_24 + 0 ≤ ms by omega⟩) hI (fun h_26 H locs hw hI => ?_)
  exact x_aret hx hb hr (by first | exact Or.inl ⟨_, rfl⟩ | exact Or.inr ⟨_, rfl⟩) hlocks hI hw (by omega) (by omega) dX5_dividedBy_29
set_option maxHeartbeats 4000000 in
set_option maxRecDepth 100000 in
theorem m_X5_dividedBy (l : Launch) (G : xG) (h0 : xH) (mc ms : Nat) (x0 : Nat) (x1 : Nat) (post : Nat → xH → Prop) (hw : wp_X5_dividedBy h0 mc ms x0 x1 post) (sz : Nat) : Met l yX5_dividedBy (wu yX5_dividedBy cX5_dividedBy 3 (some (.object "ExactFilter$Whole"))) (rX5_dividedBy mc ms) (x_Pc G [.ref x0, .ref x1] h0 sz) (x_Qr G h0 sz post) mc ms (x_A h0 sz) := by
  refine Met.ofW (cc := cX5_dividedBy) (maxL := 3) (ret := (some (.object "ExactFilter$Whole"))) (by decide) rfl ?_
  intro p e s m args below meth c s₁ B hml hv
  obtain ⟨rfl, hsz, hR, hK⟩ := hv
  subst hsz
  have C : CX p s m _ meth c G RX5 cX5_dividedBy 3 (some (.object "ExactFilter$Whole")) := ⟨B.exec, B.bytes, B.returns, hml, findClass_of_methodNamed B.named, x_hg (atoms_spec (ws := wu yX5_dividedBy cX5_dividedBy 3 (some (.object "ExactFilter$Whole"))) B.pre), B.notSynchronized, hK⟩
  obtain ⟨hx, hb, hr, hml, hown, hg, hlocks, hK⟩ := id C
  have hI : x_I G (x_A h0 s.heap.size) s.heap h0 s.heap [] := x_I.start hR
  have hkc : 0 + mc ≤ mc := by omega
  have hks : 0 + ms ≤ ms := by omega
  have hl := lv_entry ([.ref x0, .ref x1]) (n := 3) (Nat.le_of_ble_eq_true rfl)
  rw [lg_entry_eq]
  generalize (lg_sl ([.ref x0, .ref x1]) ++ List.replicate (3 - (lg_sl ([.ref x0, .ref x1])).length) Slot.unset).toArray = ls at hl ⊢
  have hl : lv_has ls 3 [(0, .ref x0), (1, .ref x1)] := hl
  unfold wp_X5_dividedBy at hw
  refine lv_aload_n hx hb dX5_dividedBy_0 rfl (lv_at hl 1 rfl) ?_
  obtain ⟨fs_1, he_1, hw⟩ := hw
  obtain ⟨v_1, hv_1, hw⟩ := hw
  refine x_get (ci := 5) (C := RX5) (T := TX5) (N := 3) hx hb hg ku_X5 hown hK hI he_1 rfl 0 (by decide) (hg _ kf_X5_7) (fun _ h9 => h9) hv_1 dX5_dividedBy_1 ?_
  refine lv_if_eq (tgt := 18) hx hb dX5_dividedBy_4 (by decide) (fun hc4 => ?_) (fun hc4 => ?_)
  · have hw := hw.1 hc4
    exact mj_X5_dividedBy_18 C h0 mc ms post  _ _ _ _ _ _ _ _ hw hI (by omega) (by omega) (lv_sub hl [] rfl)
  · have hw := hw.2 hc4
    refine lv_aload_n hx hb dX5_dividedBy_7 rfl (lv_at hl 0 rfl) ?_
    obtain ⟨fs_8, he_8, hw⟩ := hw
    obtain ⟨v_8, hv_8, hw⟩ := hw
    refine x_get (ci := 5) (C := RX5) (T := TX5) (N := 3) hx hb hg ku_X5 hown hK hI he_8 rfl 2 (by decide) (hg _ kf_X5_17) (fun _ h9 => h9) hv_8 dX5_dividedBy_8 ?_
    refine lv_aload_n hx hb dX5_dividedBy_11 rfl (lv_at hl 1 rfl) ?_
    obtain ⟨v_12, hv_12, hw⟩ := hw
    refine x_get (ci := 5) (C := RX5) (T := TX5) (N := 3) hx hb hg ku_X5 hown hK hI he_1 rfl 2 (by decide) (hg _ kf_X5_17) (fun _ h9 => h9) hv_12 dX5_dividedBy_12 ?_
    refine lv_icmp_ge (tgt := 30) hx hb dX5_dividedBy_15 (by decide) (fun hc15 => ?_) (fun hc15 => ?_)
    · have hw := hw.1 hc15
      refine lv_aload_n hx hb dX5_dividedBy_30 rfl (lv_at hl 0 rfl) ?_
      refine x_get (ci := 5) (C := RX5) (T := TX5) (N := 3) hx hb hg ku_X5 hown hK hI he_8 rfl 2 (by decide) (hg _ kf_X5_17) (fun _ h9 => h9) hv_8 dX5_dividedBy_31 ?_
      refine lv_aload_n hx hb dX5_dividedBy_34 rfl (lv_at hl 1 rfl) ?_
      refine x_get (ci := 5) (C := RX5) (T := TX5) (N := 3) hx hb hg ku_X5 hown hK hI he_1 rfl 2 (by decide) (hg _ kf_X5_17) (fun _ h9 => h9) hv_12 dX5_dividedBy_35 ?_
      refine lv_isub hx hb dX5_dividedBy_38 ?_
      refine lv_iconst (v := 1) hx hb dX5_dividedBy_39 (by decide) ?_
      refine lv_iadd hx hb dX5_dividedBy_40 ?_
      obtain ⟨hneg41, hw⟩ := hw
      obtain ⟨z_41, hz41⟩ : ∃ z : Nat, (((v_8 - v_12) + 1) : Int32).toNatClampNeg = z := ⟨_, rfl⟩
      obtain ⟨hz241, hkc1, hks1, hw⟩ := hw z_41 hz41
      refine x_newi hx hb (hg _ ka_int) hK hI hneg41 hz41 (by omega) (show 0 + 1 ≤ mc by omega) (show 0 + z_41 ≤ ms by omega) dX5_dividedBy_41 (fun q_41 H hfr41 hI => ?_)
      have hw := hw q_41 hfr41
      obtain ⟨h_41, eh_41⟩ : ∃ z : xH, z = x_up h0 q_41 (.inl (0, z_41, .inl (fun _ => 0))) := ⟨_, rfl⟩
      rw [← eh_41] at hI
      have hw := hw h_41 eh_41
      have heh_41 : h_41 q_41 = some (.inl (0, z_41, .inl (fun _ => 0))) := by rw [eh_41]; exact x_up_s
      refine lv_astore_n (lv' := [(2, .ref q_41), (0, .ref x0), (1, .ref x1)]) hx hb dX5_dividedBy_43 rfl hl (by decide) rfl (fun ls hl => ?_)
      obtain ⟨hkc1, hks1, hw⟩ := hw
      refine x_new (ci := 3) (fs := [.null, .int 0]) (C := RX3) (T := TX3) (N := 2) hx hb hg ku_X3 tyX3 tyX3_ok hown (hg _ kl_X5_53) (hg _ kt_X3) (hg _ kn_X3) hK hI rfl (by decide +kernel) (show 0 + 1 + 1 ≤ mc by omega) (show 0 + z_41 + 2 ≤ ms by omega) dX5_dividedBy_44 (fun q_44 H hfr44 hI => ?_)
      have hw := hw q_44 hfr44
      obtain ⟨h_44, eh_44⟩ : ∃ z : xH, z = x_up h_41 q_44 (.inr (3, [.null, .int 0])) := ⟨_, rfl⟩
      rw [← eh_44] at hI
      have hw := hw h_44 eh_44
      have heh_44 : h_44 q_44 = some (.inr (3, [.null, .int 0])) := by rw [eh_44]; exact x_up_s
      refine lv_dup hx hb dX5_dividedBy_47 rfl ?_
      refine lv_aload_n hx hb dX5_dividedBy_48 rfl (lv_at hl 1 rfl) ?_
      obtain ⟨mc_49, ms_49, hkc1, hks1, hw⟩ := hw
      refine x_cv (va_runI (As := [.ref x0]) (rest := [.ref q_44]) ⟨hx, hb, hml, hown, hg⟩ (m_X3_init l G h_44 mc_49 ms_49 q_44 x0 _ hw H.size) (cwI 1 hg (x_gI kk_X3_init) rfl rfl rfl (hg _ kn_X3) (hg _ km_X5_55) (hg _ ki_X3_init) rfl (by decide +kernel) ⟨Nat.le_of_ble_eq_true rfl, Nat.le_of_ble_eq_true rfl⟩) ⟨x_blind, x_pre hI hK⟩ rfl rfl hl.1 rfl (lv_room (Nat.le_of_ble_eq_true rfl)) dX5_dividedBy_49 ⟨show 0 + 1 + 1 + mc_49 ≤ mc by omega, show 0 + z_41 + 2 + ms_49 ≤ ms by omega⟩) hI (fun h_49 H locs hw hI => ?_)
      obtain ⟨hkc1, hks1, hw⟩ := hw
      refine x_new (ci := 3) (fs := [.null, .int 0]) (C := RX3) (T := TX3) (N := 2) hx hb hg ku_X3 tyX3 tyX3_ok hown (hg _ kl_X5_53) (hg _ kt_X3) (hg _ kn_X3) hK hI rfl (by decide +kernel) (show 0 + 1 + 1 + mc_49 + 1 ≤ mc by omega) (show 0 + z_41 + 2 + ms_49 + 2 ≤ ms by omega) dX5_dividedBy_52 (fun q_52 H hfr52 hI => ?_)
      have hw := hw q_52 hfr52
      obtain ⟨h_52, eh_52⟩ : ∃ z : xH, z = x_up h_49 q_52 (.inr (3, [.null, .int 0])) := ⟨_, rfl⟩
      rw [← eh_52] at hI
      have hw := hw h_52 eh_52
      have heh_52 : h_52 q_52 = some (.inr (3, [.null, .int 0])) := by rw [eh_52]; exact x_up_s
      refine lv_dup hx hb dX5_dividedBy_55 rfl ?_
      refine lv_aload_n hx hb dX5_dividedBy_56 rfl (lv_at hl 2 rfl) ?_
      obtain ⟨mc_57, ms_57, hkc1, hks1, hw⟩ := hw
      refine x_cv (va_runI (As := [.ref x1]) (rest := [.ref q_52, .ref q_44]) ⟨hx, hb, hml, hown, hg⟩ (m_X3_init l G h_52 mc_57 ms_57 q_52 x1 _ hw H.size) (cwI 1 hg (x_gI kk_X3_init) rfl rfl rfl (hg _ kn_X3) (hg _ km_X5_55) (hg _ ki_X3_init) rfl (by decide +kernel) ⟨Nat.le_of_ble_eq_true rfl, Nat.le_of_ble_eq_true rfl⟩) ⟨x_blind, x_pre hI hK⟩ rfl rfl hl.1 rfl (lv_room (Nat.le_of_ble_eq_true rfl)) dX5_dividedBy_57 ⟨show 0 + 1 + 1 + mc_49 + 1 + mc_57 ≤ mc by omega, show 0 + z_41 + 2 + ms_49 + 2 + ms_57 ≤ ms by omega⟩) hI (fun h_57 H locs hw hI => ?_)
      refine lv_aload_n hx hb dX5_dividedBy_60 rfl (lv_at hl 0 rfl) ?_
      obtain ⟨fs_61, he_61, hw⟩ := hw
      refine x_cv (va_runV (As := [.ref q_52, .ref q_41]) (rest := []) ⟨hx, hb, hml, hown, hg⟩ (m_X3_divideBy l G h_57  q_44 q_52 q_41 _ hw H.size) (cwV 2 hg (x_gV km_X5_58 ki_X3_divideBy kz_X3_X3_divideBy kn_X3 kk_X3_divideBy) rfl rfl rfl (by decide +kernel) ⟨Nat.le_of_ble_eq_true rfl, Nat.le_of_ble_eq_true rfl⟩) ⟨x_blind, x_recv hI hK he_61 rfl rfl, x_pre hI hK⟩ rfl rfl hl.1 rfl (lv_room (Nat.le_of_ble_eq_true rfl)) dX5_dividedBy_61 ⟨show 0 + 1 + 1 + mc_49 + 1 + mc_57 + 0 ≤ mc by omega, show 0 + z_41 + 2 + ms_49 + 2 + ms_57 + 0 ≤ ms by omega⟩) hI (fun h_61 H locs hw hI => ?_)
      obtain ⟨hkc1, hks1, hw⟩ := hw
      refine x_new (ci := 5) (fs := [.int 0, .null, .int 0]) (C := RX5) (T := TX5) (N := 3) hx hb hg ku_X5 tyX5 tyX5_ok hown (hg _ kl_X5_8) (hg _ kt_X5) (hg _ kn_X5) hK hI rfl (by decide +kernel) (show 0 + 1 + 1 + mc_49 + 1 + mc_57 + 0 + 1 ≤ mc by omega) (show 0 + z_41 + 2 + ms_49 + 2 + ms_57 + 0 + 3 ≤ ms by omega) dX5_dividedBy_64 (fun q_64 H hfr64 hI => ?_)
      have hw := hw q_64 hfr64
      obtain ⟨h_64, eh_64⟩ : ∃ z : xH, z = x_up h_61 q_64 (.inr (5, [.int 0, .null, .int 0])) := ⟨_, rfl⟩
      rw [← eh_64] at hI
      have hw := hw h_64 eh_64
      have heh_64 : h_64 q_64 = some (.inr (5, [.int 0, .null, .int 0])) := by rw [eh_64]; exact x_up_s
      refine lv_dup hx hb dX5_dividedBy_67 rfl ?_
      refine lv_aload_n hx hb dX5_dividedBy_68 rfl (lv_at hl 1 rfl) ?_
      obtain ⟨fs_69, he_69, hw⟩ := hw
      obtain ⟨v_69, hv_69, hw⟩ := hw
      refine x_get (ci := 5) (C := RX5) (T := TX5) (N := 3) hx hb hg ku_X5 hown hK hI he_69 rfl 0 (by decide) (hg _ kf_X5_7) (fun _ h9 => h9) hv_69 dX5_dividedBy_69 ?_
      refine lv_aload_n hx hb dX5_dividedBy_72 rfl (lv_at hl 2 rfl) ?_
      obtain ⟨fs_73, he_73, hw⟩ := hw
      obtain ⟨v_73, hv_73, hw⟩ := hw
      refine x_get (ci := 5) (C := RX5) (T := TX5) (N := 3) hx hb hg ku_X5 hown hK hI he_73 rfl 0 (by decide) (hg _ kf_X5_7) (fun _ h9 => h9) hv_73 dX5_dividedBy_73 ?_
      refine lv_imul hx hb dX5_dividedBy_76 ?_
      refine lv_aload_n hx hb dX5_dividedBy_77 rfl (lv_at hl 0 rfl) ?_
      refine x_cv (va_runI (As := [.int (v_69 * v_73), .ref q_41]) (rest := [.ref q_64]) ⟨hx, hb, hml, hown, hg⟩ (m_X5_init l G h_64  q_64 (v_69 * v_73) q_41 _ hw H.size) (cwI 2 hg (x_gI kk_X5_init) rfl rfl rfl (hg _ kn_X5) (hg _ km_X5_21) (hg _ ki_X5_init) rfl (by decide +kernel) ⟨Nat.le_of_ble_eq_true rfl, Nat.le_of_ble_eq_true rfl⟩) ⟨x_blind, x_pre hI hK⟩ rfl rfl hl.1 rfl (lv_room (Nat.le_of_ble_eq_true rfl)) dX5_dividedBy_78 ⟨show 0 + 1 + 1 + mc_49 + 1 + mc_57 + 0 + 1 + 0 ≤ mc by omega, show 0 + z_41 + 2 + ms_49 + 2 + ms_57 + 0 + 3 + 0 ≤ ms by omega⟩) hI (fun h_78 H locs hw hI => ?_)
      exact x_aret hx hb hr (by first | exact Or.inl ⟨_, rfl⟩ | exact Or.inr ⟨_, rfl⟩) hlocks hI hw (by omega) (by omega) dX5_dividedBy_81
    · have hw := hw.2 hc15
      exact mj_X5_dividedBy_18 C h0 mc ms post  _ _ _ _ _ _ _ _ hw hI (by omega) (by omega) (lv_sub hl [] rfl)
-- ===== ExactFilter$Whole.commonDivisor
abbrev rX5_commonDivisor (mc ms : Nat) : Room := { frames := 5, cells := mc, slots := ms, locals := 123 }
def wl_X5_commonDivisor_26  (post : Nat → xH → Prop) (K61 : xH → Nat → Nat → Nat → Prop) : Nat → xH → Nat → Nat → Nat → Nat → Nat → Int32 → Prop
  | 0, _, _, _, _, _, _, _ => False
  | n + 1, h, kc, ks, x2, x3, x4, x5 => (1000000 ≤ x5 → K61 h kc ks x2) ∧ (¬ 1000000 ≤ x5 → ∃ fs_34 : List Value, h x3 = some (.inr (3, fs_34)) ∧ wp_X3_isNothing h  x3 (fun (r_34 : Int32) => (¬ r_34 = 0 → K61 h kc ks x2) ∧ (r_34 = 0 → ∃ fs_44 : List Value, h x2 = some (.inr (3, fs_44)) ∧ wp_X3_divideBy h  x2 x3 x4 (fun (h_44 : xH) => ∀ (x5_55 : Int32), x5_55 = x5 + 1 → wl_X5_commonDivisor_26  post K61 n h_44 kc ks x3 x2 x4 x5_55))))
def wj_X5_commonDivisor_61  (post : Nat → xH → Prop)  (h : xH) (kc : Nat) (ks : Nat) (x2 : Nat) : Prop := ∃ fs_62 : List Value, h x2 = some (.inr (3, fs_62)) ∧ ∃ mc_62 ms_62 : Nat, mc_62 ≤ kc ∧ ms_62 ≤ ks ∧ wp_X3_whole h mc_62 ms_62 x2 (fun (r_62 : Nat) (h_62 : xH) => post r_62 h_62)
def wp_X5_commonDivisor (h0 : xH) (mc ms : Nat) (x0 : Nat) (x1 : Nat) (post : Nat → xH → Prop) : Prop := 1 ≤ mc ∧ 2 ≤ ms ∧ ∀ q_0 : Nat, x_fresh h0 q_0 → ∀ h_0 : xH, h_0 = x_up h0 q_0 (.inr (3, [.null, .int 0])) → ∃ mc_5 ms_5 : Nat, mc_5 ≤ (mc - 1) ∧ ms_5 ≤ (ms - 2) ∧ wp_X3_init h_0 mc_5 ms_5 q_0 x0 (fun (h_5 : xH) => 1 ≤ ((mc - 1) - mc_5) ∧ 2 ≤ ((ms - 2) - ms_5) ∧ ∀ q_9 : Nat, x_fresh h_5 q_9 → ∀ h_9 : xH, h_9 = x_up h_5 q_9 (.inr (3, [.null, .int 0])) → ∃ mc_14 ms_14 : Nat, mc_14 ≤ (((mc - 1) - mc_5) - 1) ∧ ms_14 ≤ (((ms - 2) - ms_5) - 2) ∧ wp_X3_init h_9 mc_14 ms_14 q_9 x1 (fun (h_14 : xH) => ¬ (0 : Int32) < 0 ∧ ∀ z_19 : Nat, (0 : Int32).toNatClampNeg = z_19 → z_19 ≤ 60000000 ∧ 1 ≤ ((((mc - 1) - mc_5) - 1) - mc_14) ∧ z_19 ≤ ((((ms - 2) - ms_5) - 2) - ms_14) ∧ ∀ q_19 : Nat, x_fresh h_14 q_19 → ∀ h_19 : xH, h_19 = x_up h_14 q_19 (.inl (0, z_19, .inl (fun _ => 0))) → ∃ n26 : Nat, wl_X5_commonDivisor_26  post (fun (h : xH) (kc : Nat) (ks : Nat) (x2 : Nat) => wj_X5_commonDivisor_61  post  h kc ks x2) n26 h_19 (((((mc - 1) - mc_5) - 1) - mc_14) - 1) (((((ms - 2) - ms_5) - 2) - ms_14) - z_19) q_0 q_9 q_19 0))
set_option maxHeartbeats 4000000 in
set_option maxRecDepth 100000 in
theorem ml_X5_commonDivisor_26 (C : CX p s m args meth c G RX5 cX5_commonDivisor 7 (some (.object "ExactFilter$Whole"))) (h0 : xH) (mc ms : Nat) (post : Nat → xH → Prop) (K61 : xH → Nat → Nat → Nat → Prop)
    (hK61 : (∀ (h : xH) (kc : Nat) (ks : Nat) (x2 : Nat) (H : Heap) (locs : List Loc) (ls : Array Slot) (nc ns : Nat), K61 h kc ks x2 → x_I G (x_A h0 s.heap.size) s.heap h H locs → nc + kc ≤ mc → ns + ks ≤ ms → lv_has ls 7 [(2, .ref x2)] → W p l e (rX5_commonDivisor mc ms) s m args below meth c H locs nc ns (MQ below (x_Qr G h0 s.heap.size post) args s mc ms (x_A h0 s.heap.size)) (F0 m 61 ls []))) :
    ∀ (n : Nat) (h : xH) (kc : Nat) (ks : Nat) (x2 : Nat) (x3 : Nat) (x4 : Nat) (x5 : Int32) (H : Heap) (locs : List Loc) (ls : Array Slot) (nc ns : Nat), wl_X5_commonDivisor_26  post K61 n h kc ks x2 x3 x4 x5 → x_I G (x_A h0 s.heap.size) s.heap h H locs → nc + kc ≤ mc → ns + ks ≤ ms → lv_has ls 7 [(2, .ref x2), (3, .ref x3), (4, .ref x4), (5, .int x5)] → W p l e (rX5_commonDivisor mc ms) s m args below meth c H locs nc ns (MQ below (x_Qr G h0 s.heap.size post) args s mc ms (x_A h0 s.heap.size)) (F0 m 26 ls []) := by
  obtain ⟨hx, hb, hr, hml, hown, hg, hlocks, hK⟩ := id C
  intro n
  induction n with
  | zero => intro h kc ks x2 x3 x4 x5 H locs ls nc ns hw; exact absurd hw id
  | succ n ih =>
    intro h kc ks x2 x3 x4 x5 H locs ls nc ns hw hI hkc hks hl
    refine lv_iload hx hb dX5_commonDivisor_26 (lv_at hl 3 rfl) ?_
    refine lv_ldc (v := 1000000) hx hb hown (hg _ kc_X5_62) dX5_commonDivisor_28 ?_
    refine lv_icmp_ge (tgt := 61) hx hb dX5_commonDivisor_30 (by decide) (fun hc30 => ?_) (fun hc30 => ?_)
    · have hw := hw.1 hc30
      exact hK61 _ _ _ _ _ _ _ _ _ hw hI (by omega) (by omega) (lv_sub hl [0] rfl)
    · have hw := hw.2 hc30
      refine lv_aload_n hx hb dX5_commonDivisor_33 rfl (lv_at hl 1 rfl) ?_
      obtain ⟨fs_34, he_34, hw⟩ := hw
      refine x_ci (va_runV (As := []) (rest := []) ⟨hx, hb, hml, hown, hg⟩ (m_X3_isNothing l G h  x3 _ hw H.size) (cwV 0 hg (x_gV km_X5_63 ki_X3_isNothing kz_X3_X3_isNothing kn_X3 kk_X3_isNothing) rfl rfl rfl (by decide +kernel) ⟨Nat.le_of_ble_eq_true rfl, Nat.le_of_ble_eq_true rfl⟩) ⟨x_blind, x_recv hI hK he_34 rfl rfl, x_pre hI hK⟩ rfl rfl hl.1 rfl (lv_room (Nat.le_of_ble_eq_true rfl)) dX5_commonDivisor_34 ⟨show nc + 0 ≤ mc by omega, show ns + 0 ≤ ms by omega⟩) hI (fun r_34 h_34 H locs hw hI => ?_)
      obtain ⟨eh_34, hw⟩ := hw
      rw [eh_34] at hI
      refine lv_if_ne (tgt := 61) hx hb dX5_commonDivisor_37 (by decide) (fun hc37 => ?_) (fun hc37 => ?_)
      · have hw := hw.1 hc37
        exact hK61 _ _ _ _ _ _ _ _ _ hw hI (by omega) (by omega) (lv_sub hl [0] rfl)
      · have hw := hw.2 hc37
        refine lv_aload_n hx hb dX5_commonDivisor_40 rfl (lv_at hl 0 rfl) ?_
        refine lv_aload_n hx hb dX5_commonDivisor_41 rfl (lv_at hl 1 rfl) ?_
        refine lv_aload hx hb dX5_commonDivisor_42 (lv_at hl 2 rfl) ?_
        obtain ⟨fs_44, he_44, hw⟩ := hw
        refine x_cv (va_runV (As := [.ref x3, .ref x4]) (rest := []) ⟨hx, hb, hml, hown, hg⟩ (m_X3_divideBy l G h  x2 x3 x4 _ hw H.size) (cwV 2 hg (x_gV km_X5_58 ki_X3_divideBy kz_X3_X3_divideBy kn_X3 kk_X3_divideBy) rfl rfl rfl (by decide +kernel) ⟨Nat.le_of_ble_eq_true rfl, Nat.le_of_ble_eq_true rfl⟩) ⟨x_blind, x_recv hI hK he_44 rfl rfl, x_pre hI hK⟩ rfl rfl hl.1 rfl (lv_room (Nat.le_of_ble_eq_true rfl)) dX5_commonDivisor_44 ⟨show nc + 0 + 0 ≤ mc by omega, show ns + 0 + 0 ≤ ms by omega⟩) hI (fun h_44 H locs hw hI => ?_)
        refine lv_aload_n hx hb dX5_commonDivisor_47 rfl (lv_at hl 0 rfl) ?_
        refine lv_astore (lv' := [(6, .ref x2), (2, .ref x2), (3, .ref x3), (4, .ref x4), (5, .int x5)]) hx hb dX5_commonDivisor_48 hl (by decide) rfl (fun ls hl => ?_)
        refine lv_aload_n hx hb dX5_commonDivisor_50 rfl (lv_at hl 2 rfl) ?_
        refine lv_astore_n (lv' := [(2, .ref x3), (6, .ref x2), (3, .ref x3), (4, .ref x4), (5, .int x5)]) hx hb dX5_commonDivisor_51 rfl hl (by decide) rfl (fun ls hl => ?_)
        refine lv_aload hx hb dX5_commonDivisor_52 (lv_at hl 1 rfl) ?_
        refine lv_astore_n (lv' := [(3, .ref x2), (2, .ref x3), (6, .ref x2), (4, .ref x4), (5, .int x5)]) hx hb dX5_commonDivisor_54 rfl hl (by decide) rfl (fun ls hl => ?_)
        obtain ⟨x5_55, ex5_55⟩ : ∃ y : Int32, y = x5 + 1 := ⟨_, rfl⟩
        have hw := hw x5_55 ex5_55
        refine lv_iinc (v := x5_55) (lv' := [(5, .int x5_55), (3, .ref x2), (2, .ref x3), (6, .ref x2), (4, .ref x4)]) hx hb dX5_commonDivisor_55 hl (k := 4) rfl (by rw [ex5_55]; rfl) (by decide) rfl (fun ls hl => ?_)
        refine lv_goto (tgt := 26) hx hb dX5_commonDivisor_58 (by decide) ?_
        exact ih _ _ _ _ _ _ _ _ _ _ _ _ hw hI (by omega) (by omega) (lv_sub hl [2, 1, 4, 0] rfl)
set_option maxHeartbeats 4000000 in
set_option maxRecDepth 100000 in
theorem mj_X5_commonDivisor_61 (C : CX p s m args meth c G RX5 cX5_commonDivisor 7 (some (.object "ExactFilter$Whole"))) (h0 : xH) (mc ms : Nat) (post : Nat → xH → Prop) 
    
    (h : xH) (kc : Nat) (ks : Nat) (x2 : Nat) (H : Heap) (locs : List Loc) (ls : Array Slot) (nc ns : Nat) (hw : wj_X5_commonDivisor_61  post  h kc ks x2) (hI : x_I G (x_A h0 s.heap.size) s.heap h H locs) (hkc : nc + kc ≤ mc) (hks : ns + ks ≤ ms) (hl : lv_has ls 7 [(2, .ref x2)]) : W p l e (rX5_commonDivisor mc ms) s m args below meth c H locs nc ns (MQ below (x_Qr G h0 s.heap.size post) args s mc ms (x_A h0 s.heap.size)) (F0 m 61 ls []) := by
  obtain ⟨hx, hb, hr, hml, hown, hg, hlocks, hK⟩ := id C
  unfold wj_X5_commonDivisor_61 at hw
  refine lv_aload_n hx hb dX5_commonDivisor_61 rfl (lv_at hl 0 rfl) ?_
  obtain ⟨fs_62, he_62, hw⟩ := hw
  obtain ⟨mc_62, ms_62, hkc1, hks1, hw⟩ := hw
  refine x_cr (va_runV (As := []) (rest := []) ⟨hx, hb, hml, hown, hg⟩ (m_X3_whole l G h mc_62 ms_62 x2 _ hw H.size) (cwV 0 hg (x_gV km_X5_67 ki_X3_whole kz_X3_X3_whole kn_X3 kk_X3_whole) rfl rfl rfl (by decide +kernel) ⟨Nat.le_of_ble_eq_true rfl, Nat.le_of_ble_eq_true rfl⟩) ⟨x_blind, x_recv hI hK he_62 rfl rfl, x_pre hI hK⟩ rfl rfl hl.1 rfl (lv_room (Nat.le_of_ble_eq_true rfl)) dX5_commonDivisor_62 ⟨show nc + mc_62 ≤ mc by omega, show ns + ms_62 ≤ ms by omega⟩) hI (fun r_62 h_62 H locs hw hI => ?_)
  exact x_aret hx hb hr (by first | exact Or.inl ⟨_, rfl⟩ | exact Or.inr ⟨_, rfl⟩) hlocks hI hw (by omega) (by omega) dX5_commonDivisor_65
set_option maxHeartbeats 4000000 in
set_option maxRecDepth 100000 in
theorem m_X5_commonDivisor (l : Launch) (G : xG) (h0 : xH) (mc ms : Nat) (x0 : Nat) (x1 : Nat) (post : Nat → xH → Prop) (hw : wp_X5_commonDivisor h0 mc ms x0 x1 post) (sz : Nat) : Met l yX5_commonDivisor (wu yX5_commonDivisor cX5_commonDivisor 7 (some (.object "ExactFilter$Whole"))) (rX5_commonDivisor mc ms) (x_Pc G [.ref x0, .ref x1] h0 sz) (x_Qr G h0 sz post) mc ms (x_A h0 sz) := by
  refine Met.ofW (cc := cX5_commonDivisor) (maxL := 7) (ret := (some (.object "ExactFilter$Whole"))) (by decide) rfl ?_
  intro p e s m args below meth c s₁ B hml hv
  obtain ⟨rfl, hsz, hR, hK⟩ := hv
  subst hsz
  have C : CX p s m _ meth c G RX5 cX5_commonDivisor 7 (some (.object "ExactFilter$Whole")) := ⟨B.exec, B.bytes, B.returns, hml, findClass_of_methodNamed B.named, x_hg (atoms_spec (ws := wu yX5_commonDivisor cX5_commonDivisor 7 (some (.object "ExactFilter$Whole"))) B.pre), B.notSynchronized, hK⟩
  obtain ⟨hx, hb, hr, hml, hown, hg, hlocks, hK⟩ := id C
  have hI : x_I G (x_A h0 s.heap.size) s.heap h0 s.heap [] := x_I.start hR
  have hkc : 0 + mc ≤ mc := by omega
  have hks : 0 + ms ≤ ms := by omega
  have hl := lv_entry ([.ref x0, .ref x1]) (n := 7) (Nat.le_of_ble_eq_true rfl)
  rw [lg_entry_eq]
  generalize (lg_sl ([.ref x0, .ref x1]) ++ List.replicate (7 - (lg_sl ([.ref x0, .ref x1])).length) Slot.unset).toArray = ls at hl ⊢
  have hl : lv_has ls 7 [(0, .ref x0), (1, .ref x1)] := hl
  unfold wp_X5_commonDivisor at hw
  obtain ⟨hkc1, hks1, hw⟩ := hw
  refine x_new (ci := 3) (fs := [.null, .int 0]) (C := RX3) (T := TX3) (N := 2) hx hb hg ku_X3 tyX3 tyX3_ok hown (hg _ kl_X5_53) (hg _ kt_X3) (hg _ kn_X3) hK hI rfl (by decide +kernel) (show 0 + 1 ≤ mc by omega) (show 0 + 2 ≤ ms by omega) dX5_commonDivisor_0 (fun q_0 H hfr0 hI => ?_)
  have hw := hw q_0 hfr0
  obtain ⟨h_0, eh_0⟩ : ∃ z : xH, z = x_up h0 q_0 (.inr (3, [.null, .int 0])) := ⟨_, rfl⟩
  rw [← eh_0] at hI
  have hw := hw h_0 eh_0
  have heh_0 : h_0 q_0 = some (.inr (3, [.null, .int 0])) := by rw [eh_0]; exact x_up_s
  refine lv_dup hx hb dX5_commonDivisor_3 rfl ?_
  refine lv_aload_n hx hb dX5_commonDivisor_4 rfl (lv_at hl 0 rfl) ?_
  obtain ⟨mc_5, ms_5, hkc1, hks1, hw⟩ := hw
  refine x_cv (va_runI (As := [.ref x0]) (rest := [.ref q_0]) ⟨hx, hb, hml, hown, hg⟩ (m_X3_init l G h_0 mc_5 ms_5 q_0 x0 _ hw H.size) (cwI 1 hg (x_gI kk_X3_init) rfl rfl rfl (hg _ kn_X3) (hg _ km_X5_55) (hg _ ki_X3_init) rfl (by decide +kernel) ⟨Nat.le_of_ble_eq_true rfl, Nat.le_of_ble_eq_true rfl⟩) ⟨x_blind, x_pre hI hK⟩ rfl rfl hl.1 rfl (lv_room (Nat.le_of_ble_eq_true rfl)) dX5_commonDivisor_5 ⟨show 0 + 1 + mc_5 ≤ mc by omega, show 0 + 2 + ms_5 ≤ ms by omega⟩) hI (fun h_5 H locs hw hI => ?_)
  refine lv_astore_n (lv' := [(2, .ref q_0), (0, .ref x0), (1, .ref x1)]) hx hb dX5_commonDivisor_8 rfl hl (by decide) rfl (fun ls hl => ?_)
  obtain ⟨hkc1, hks1, hw⟩ := hw
  refine x_new (ci := 3) (fs := [.null, .int 0]) (C := RX3) (T := TX3) (N := 2) hx hb hg ku_X3 tyX3 tyX3_ok hown (hg _ kl_X5_53) (hg _ kt_X3) (hg _ kn_X3) hK hI rfl (by decide +kernel) (show 0 + 1 + mc_5 + 1 ≤ mc by omega) (show 0 + 2 + ms_5 + 2 ≤ ms by omega) dX5_commonDivisor_9 (fun q_9 H hfr9 hI => ?_)
  have hw := hw q_9 hfr9
  obtain ⟨h_9, eh_9⟩ : ∃ z : xH, z = x_up h_5 q_9 (.inr (3, [.null, .int 0])) := ⟨_, rfl⟩
  rw [← eh_9] at hI
  have hw := hw h_9 eh_9
  have heh_9 : h_9 q_9 = some (.inr (3, [.null, .int 0])) := by rw [eh_9]; exact x_up_s
  refine lv_dup hx hb dX5_commonDivisor_12 rfl ?_
  refine lv_aload_n hx hb dX5_commonDivisor_13 rfl (lv_at hl 2 rfl) ?_
  obtain ⟨mc_14, ms_14, hkc1, hks1, hw⟩ := hw
  refine x_cv (va_runI (As := [.ref x1]) (rest := [.ref q_9]) ⟨hx, hb, hml, hown, hg⟩ (m_X3_init l G h_9 mc_14 ms_14 q_9 x1 _ hw H.size) (cwI 1 hg (x_gI kk_X3_init) rfl rfl rfl (hg _ kn_X3) (hg _ km_X5_55) (hg _ ki_X3_init) rfl (by decide +kernel) ⟨Nat.le_of_ble_eq_true rfl, Nat.le_of_ble_eq_true rfl⟩) ⟨x_blind, x_pre hI hK⟩ rfl rfl hl.1 rfl (lv_room (Nat.le_of_ble_eq_true rfl)) dX5_commonDivisor_14 ⟨show 0 + 1 + mc_5 + 1 + mc_14 ≤ mc by omega, show 0 + 2 + ms_5 + 2 + ms_14 ≤ ms by omega⟩) hI (fun h_14 H locs hw hI => ?_)
  refine lv_astore_n (lv' := [(3, .ref q_9), (2, .ref q_0), (0, .ref x0), (1, .ref x1)]) hx hb dX5_commonDivisor_17 rfl hl (by decide) rfl (fun ls hl => ?_)
  refine lv_iconst (v := 0) hx hb dX5_commonDivisor_18 (by decide) ?_
  obtain ⟨hneg19, hw⟩ := hw
  obtain ⟨z_19, hz19⟩ : ∃ z : Nat, (0 : Int32).toNatClampNeg = z := ⟨_, rfl⟩
  obtain ⟨hz219, hkc1, hks1, hw⟩ := hw z_19 hz19
  refine x_newi hx hb (hg _ ka_int) hK hI hneg19 hz19 (by omega) (show 0 + 1 + mc_5 + 1 + mc_14 + 1 ≤ mc by omega) (show 0 + 2 + ms_5 + 2 + ms_14 + z_19 ≤ ms by omega) dX5_commonDivisor_19 (fun q_19 H hfr19 hI => ?_)
  have hw := hw q_19 hfr19
  obtain ⟨h_19, eh_19⟩ : ∃ z : xH, z = x_up h_14 q_19 (.inl (0, z_19, .inl (fun _ => 0))) := ⟨_, rfl⟩
  rw [← eh_19] at hI
  have hw := hw h_19 eh_19
  have heh_19 : h_19 q_19 = some (.inl (0, z_19, .inl (fun _ => 0))) := by rw [eh_19]; exact x_up_s
  refine lv_astore (lv' := [(4, .ref q_19), (3, .ref q_9), (2, .ref q_0), (0, .ref x0), (1, .ref x1)]) hx hb dX5_commonDivisor_21 hl (by decide) rfl (fun ls hl => ?_)
  refine lv_iconst (v := 0) hx hb dX5_commonDivisor_23 (by decide) ?_
  refine lv_istore (lv' := [(5, .int 0), (4, .ref q_19), (3, .ref q_9), (2, .ref q_0), (0, .ref x0), (1, .ref x1)]) hx hb dX5_commonDivisor_24 hl (by decide) rfl (fun ls hl => ?_)
  obtain ⟨n26, hw⟩ := hw
  refine ml_X5_commonDivisor_26 C h0 mc ms post _ ?_ n26 _ _ _ _ _ _ _ _ _ _ _ _ hw hI (by omega) (by omega) (lv_sub hl [3, 2, 1, 0] rfl)
  · intro h kc ks x2 H locs ls nc ns hw hI hkc hks hl
    exact mj_X5_commonDivisor_61 C h0 mc ms post  _ _ _ _ _ _ _ _ _ hw hI (by omega) (by omega) (lv_sub hl [0] rfl)
end XB_xb1
