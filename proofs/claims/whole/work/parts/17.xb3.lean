section XB_xb3
variable {p : Program} {l : Launch} {e : Env} {s : State} {m : MethodId} {args : Array Value} {below : List Frame} {meth : Method} {c : Code} {G : xG}
-- ===== ExactFilter.init
abbrev rX6_init (mc ms : Nat) : Room := { frames := 4, cells := mc, slots := ms, locals := 91 }
set_option maxRecDepth 100000 in
def wp_X6_init (h0 : xH) (mc ms : Nat) (x0 : Nat) (post : xH → Prop) : Prop := 1 ≤ mc ∧ 2 ≤ ms ∧ ∀ q_5 : Nat, x_fresh h0 q_5 → ∀ h_5 : xH, h_5 = x_up h0 q_5 (.inr (1, [.int 0, .null])) → ∃ mc_10 ms_10 : Nat, mc_10 ≤ (mc - 1) ∧ ms_10 ≤ (ms - 2) ∧ wp_X1_init h_5 mc_10 ms_10 q_5 1 (fun (h_10 : xH) => ∃ fs_13 : List Value, h_10 x0 = some (.inr (6, fs_13)) ∧ 0 < (fs_13 : List Value).length ∧ ∀ h_13 : xH, h_13 = x_up h_10 x0 (.inr (6, (fs_13 : List Value).set 0 (.ref q_5))) → ∃ mc_18 ms_18 : Nat, mc_18 ≤ ((mc - 1) - mc_10) ∧ ms_18 ≤ ((ms - 2) - ms_10) ∧ wp_X4_ofFraction h_13 mc_18 ms_18 0 1 (fun (r_18 : Nat) (h_18 : xH) => ∃ fs_24 : List Value, h_18 x0 = some (.inr (6, fs_24)) ∧ 5 < (fs_24 : List Value).length ∧ ∀ h_24 : xH, h_24 = x_up h_18 x0 (.inr (6, (fs_24 : List Value).set 5 (.ref r_18))) → 6 < ((fs_24 : List Value).set 5 (.ref r_18) : List Value).length ∧ ∀ h_29 : xH, h_29 = x_up h_24 x0 (.inr (6, ((fs_24 : List Value).set 5 (.ref r_18) : List Value).set 6 (.ref r_18))) → 7 < (((fs_24 : List Value).set 5 (.ref r_18) : List Value).set 6 (.ref r_18) : List Value).length ∧ ∀ h_34 : xH, h_34 = x_up h_29 x0 (.inr (6, (((fs_24 : List Value).set 5 (.ref r_18) : List Value).set 6 (.ref r_18) : List Value).set 7 (.ref r_18))) → 8 < ((((fs_24 : List Value).set 5 (.ref r_18) : List Value).set 6 (.ref r_18) : List Value).set 7 (.ref r_18) : List Value).length ∧ ∀ h_39 : xH, h_39 = x_up h_34 x0 (.inr (6, ((((fs_24 : List Value).set 5 (.ref r_18) : List Value).set 6 (.ref r_18) : List Value).set 7 (.ref r_18) : List Value).set 8 (.ref r_18))) → 9 < (((((fs_24 : List Value).set 5 (.ref r_18) : List Value).set 6 (.ref r_18) : List Value).set 7 (.ref r_18) : List Value).set 8 (.ref r_18) : List Value).length ∧ ∀ h_44 : xH, h_44 = x_up h_39 x0 (.inr (6, (((((fs_24 : List Value).set 5 (.ref r_18) : List Value).set 6 (.ref r_18) : List Value).set 7 (.ref r_18) : List Value).set 8 (.ref r_18) : List Value).set 9 (.ref r_18))) → post h_44))
set_option maxHeartbeats 4000000 in
set_option maxRecDepth 100000 in
theorem m_X6_init (l : Launch) (G : xG) (h0 : xH) (mc ms : Nat) (x0 : Nat) (post : xH → Prop) (hw : wp_X6_init h0 mc ms x0 post) (sz : Nat) : Met l yX6_init (wu yX6_init cX6_init 2 none) (rX6_init mc ms) (x_Pc G [.ref x0] h0 sz) (x_Qv G h0 sz post) mc ms (x_A h0 sz) := by
  refine Met.ofW (cc := cX6_init) (maxL := 2) (ret := none) (by decide) rfl ?_
  intro p e s m args below meth c s₁ B hml hv
  obtain ⟨rfl, hsz, hR, hK⟩ := hv
  subst hsz
  have C : CX p s m _ meth c G RX6 cX6_init 2 none := ⟨B.exec, B.bytes, B.returns, hml, findClass_of_methodNamed B.named, x_hg (atoms_spec (ws := wu yX6_init cX6_init 2 none) B.pre), B.notSynchronized, hK⟩
  obtain ⟨hx, hb, hr, hml, hown, hg, hlocks, hK⟩ := id C
  have hin : meth.name = "<init>" := (name_of_methodNamed B.named B.method).1
  have hI : x_I G (x_A h0 s.heap.size) s.heap h0 s.heap [] := x_I.start hR
  have hkc : 0 + mc ≤ mc := by omega
  have hks : 0 + ms ≤ ms := by omega
  have hl := lv_entry ([.ref x0]) (n := 2) (Nat.le_of_ble_eq_true rfl)
  rw [lg_entry_eq]
  generalize (lg_sl ([.ref x0]) ++ List.replicate (2 - (lg_sl ([.ref x0])).length) Slot.unset).toArray = ls at hl ⊢
  have hl : lv_has ls 2 [(0, .ref x0)] := hl
  unfold wp_X6_init at hw
  refine lv_aload_n hx hb dX6_init_0 rfl (lv_at hl 0 rfl) ?_
  refine W.objInit hx hb hown (hg _ km_X6_1) (hg _ ki_java_lang_Object__init____V) (hg _ kk_java_lang_Object__init____V) rfl (by rw [hml]; exact hl.1) rfl dX6_init_1 (Nat.le_of_ble_eq_true rfl) (Nat.le_of_ble_eq_true rfl) ?_
  refine W.eq (g2 := F0 m 4 ls []) rfl ?_
  refine lv_aload_n hx hb dX6_init_4 rfl (lv_at hl 0 rfl) ?_
  obtain ⟨hkc1, hks1, hw⟩ := hw
  refine x_new (ci := 1) (fs := [.int 0, .null]) (C := RX1) (T := TX1) (N := 2) hx hb hg ku_X1 tyX1 tyX1_ok hown (hg _ kl_X6_7) (hg _ kt_X1) (hg _ kn_X1) hK hI rfl (by decide +kernel) (show 0 + 1 ≤ mc by omega) (show 0 + 2 ≤ ms by omega) dX6_init_5 (fun q_5 H hfr5 hI => ?_)
  have hw := hw q_5 hfr5
  obtain ⟨h_5, eh_5⟩ : ∃ z : xH, z = x_up h0 q_5 (.inr (1, [.int 0, .null])) := ⟨_, rfl⟩
  rw [← eh_5] at hI
  have hw := hw h_5 eh_5
  have heh_5 : h_5 q_5 = some (.inr (1, [.int 0, .null])) := by rw [eh_5]; exact x_up_s
  refine lv_dup hx hb dX6_init_8 rfl ?_
  refine lv_iconst (v := 1) hx hb dX6_init_9 (by decide) ?_
  obtain ⟨mc_10, ms_10, hkc1, hks1, hw⟩ := hw
  refine x_cv (va_runI (As := [.int 1]) (rest := [.ref q_5, .ref x0]) ⟨hx, hb, hml, hown, hg⟩ (m_X1_init l G h_5 mc_10 ms_10 q_5 1 _ hw H.size) (cwI 1 hg (x_gI kk_X1_init) rfl rfl rfl (hg _ kn_X1) (hg _ km_X6_9) (hg _ ki_X1_init) rfl (by decide +kernel) ⟨Nat.le_of_ble_eq_true rfl, Nat.le_of_ble_eq_true rfl⟩) ⟨x_blind, x_pre hI hK⟩ rfl rfl hl.1 rfl (lv_room (Nat.le_of_ble_eq_true rfl)) dX6_init_10 ⟨show 0 + 1 + mc_10 ≤ mc by omega, show 0 + 2 + ms_10 ≤ ms by omega⟩) hI (fun h_10 H locs hw hI => ?_)
  obtain ⟨fs_13, he_13, hw⟩ := hw
  obtain ⟨hlen13, hw⟩ := hw
  refine x_put (ci := 6) (v := .ref q_5) (ty := .object "ExactFilter$Model") (C := RX6) (T := TX6) (N := 10) hx hb hg ku_X6 tyX6 tyX6_ok nmX6 hown hK hI he_13 rfl 0 (by decide) (hg _ kf_X6_12) (fun _ h9 => h9) rfl (by decide +kernel) rfl rfl hlen13 dX6_init_13 (fun H locs hI => ?_)
  have hI : x_I G (x_A h0 s.heap.size) s.heap (x_up h_10 x0 (.inr (6, (fs_13 : List Value).set 0 (.ref q_5)))) H locs := hI
  obtain ⟨h_13, eh_13⟩ : ∃ z : xH, z = x_up h_10 x0 (.inr (6, (fs_13 : List Value).set 0 (.ref q_5))) := ⟨_, rfl⟩
  rw [← eh_13] at hI
  have hw := hw h_13 eh_13
  have heh_13 : h_13 x0 = some (.inr (6, (fs_13 : List Value).set 0 (.ref q_5))) := by rw [eh_13]; exact x_up_s
  refine lv_iconst (v := 0) hx hb dX6_init_16 (by decide) ?_
  refine lv_iconst (v := 1) hx hb dX6_init_17 (by decide) ?_
  obtain ⟨mc_18, ms_18, hkc1, hks1, hw⟩ := hw
  refine x_cr (va_runS (As := [.int 0, .int 1]) (rest := []) ⟨hx, hb, hml, hown, hg⟩ (m_X4_ofFraction l G h_13 mc_18 ms_18 0 1 _ hw H.size) (va_cwS 2 hg (x_gS km_X6_18 ks_X4_ofFraction kn_X4 kk_X4_ofFraction) rfl rfl rfl (by decide +kernel) ⟨Nat.le_of_ble_eq_true rfl, Nat.le_of_ble_eq_true rfl⟩) ⟨x_blind, x_pre hI hK⟩ rfl rfl hl.1 rfl (lv_room (Nat.le_of_ble_eq_true rfl)) dX6_init_18 ⟨show 0 + 1 + mc_10 + mc_18 ≤ mc by omega, show 0 + 2 + ms_10 + ms_18 ≤ ms by omega⟩) hI (fun r_18 h_18 H locs hw hI => ?_)
  refine lv_astore_n (lv' := [(1, .ref r_18), (0, .ref x0)]) hx hb dX6_init_21 rfl hl (by decide) rfl (fun ls hl => ?_)
  refine lv_aload_n hx hb dX6_init_22 rfl (lv_at hl 1 rfl) ?_
  refine lv_aload_n hx hb dX6_init_23 rfl (lv_at hl 0 rfl) ?_
  obtain ⟨fs_24, he_24, hw⟩ := hw
  obtain ⟨hlen24, hw⟩ := hw
  refine x_put (ci := 6) (v := .ref r_18) (ty := .object "ExactFilter$Table") (C := RX6) (T := TX6) (N := 10) hx hb hg ku_X6 tyX6 tyX6_ok nmX6 hown hK hI he_24 rfl 5 (by decide) (hg _ kf_X6_24) (fun _ h9 => h9) rfl (by decide +kernel) rfl rfl hlen24 dX6_init_24 (fun H locs hI => ?_)
  have hI : x_I G (x_A h0 s.heap.size) s.heap (x_up h_18 x0 (.inr (6, (fs_24 : List Value).set 5 (.ref r_18)))) H locs := hI
  obtain ⟨h_24, eh_24⟩ : ∃ z : xH, z = x_up h_18 x0 (.inr (6, (fs_24 : List Value).set 5 (.ref r_18))) := ⟨_, rfl⟩
  rw [← eh_24] at hI
  have hw := hw h_24 eh_24
  have heh_24 : h_24 x0 = some (.inr (6, (fs_24 : List Value).set 5 (.ref r_18))) := by rw [eh_24]; exact x_up_s
  refine lv_aload_n hx hb dX6_init_27 rfl (lv_at hl 1 rfl) ?_
  refine lv_aload_n hx hb dX6_init_28 rfl (lv_at hl 0 rfl) ?_
  obtain ⟨hlen29, hw⟩ := hw
  refine x_put (ci := 6) (v := .ref r_18) (ty := .object "ExactFilter$Table") (C := RX6) (T := TX6) (N := 10) hx hb hg ku_X6 tyX6 tyX6_ok nmX6 hown hK hI heh_24 rfl 6 (by decide) (hg _ kf_X6_28) (fun _ h9 => h9) rfl (by decide +kernel) rfl rfl hlen29 dX6_init_29 (fun H locs hI => ?_)
  have hI : x_I G (x_A h0 s.heap.size) s.heap (x_up h_24 x0 (.inr (6, ((fs_24 : List Value).set 5 (.ref r_18) : List Value).set 6 (.ref r_18)))) H locs := hI
  obtain ⟨h_29, eh_29⟩ : ∃ z : xH, z = x_up h_24 x0 (.inr (6, ((fs_24 : List Value).set 5 (.ref r_18) : List Value).set 6 (.ref r_18))) := ⟨_, rfl⟩
  rw [← eh_29] at hI
  have hw := hw h_29 eh_29
  have heh_29 : h_29 x0 = some (.inr (6, ((fs_24 : List Value).set 5 (.ref r_18) : List Value).set 6 (.ref r_18))) := by rw [eh_29]; exact x_up_s
  refine lv_aload_n hx hb dX6_init_32 rfl (lv_at hl 1 rfl) ?_
  refine lv_aload_n hx hb dX6_init_33 rfl (lv_at hl 0 rfl) ?_
  obtain ⟨hlen34, hw⟩ := hw
  refine x_put (ci := 6) (v := .ref r_18) (ty := .object "ExactFilter$Table") (C := RX6) (T := TX6) (N := 10) hx hb hg ku_X6 tyX6 tyX6_ok nmX6 hown hK hI heh_29 rfl 7 (by decide) (hg _ kf_X6_31) (fun _ h9 => h9) rfl (by decide +kernel) rfl rfl hlen34 dX6_init_34 (fun H locs hI => ?_)
  have hI : x_I G (x_A h0 s.heap.size) s.heap (x_up h_29 x0 (.inr (6, (((fs_24 : List Value).set 5 (.ref r_18) : List Value).set 6 (.ref r_18) : List Value).set 7 (.ref r_18)))) H locs := hI
  obtain ⟨h_34, eh_34⟩ : ∃ z : xH, z = x_up h_29 x0 (.inr (6, (((fs_24 : List Value).set 5 (.ref r_18) : List Value).set 6 (.ref r_18) : List Value).set 7 (.ref r_18))) := ⟨_, rfl⟩
  rw [← eh_34] at hI
  have hw := hw h_34 eh_34
  have heh_34 : h_34 x0 = some (.inr (6, (((fs_24 : List Value).set 5 (.ref r_18) : List Value).set 6 (.ref r_18) : List Value).set 7 (.ref r_18))) := by rw [eh_34]; exact x_up_s
  refine lv_aload_n hx hb dX6_init_37 rfl (lv_at hl 1 rfl) ?_
  refine lv_aload_n hx hb dX6_init_38 rfl (lv_at hl 0 rfl) ?_
  obtain ⟨hlen39, hw⟩ := hw
  refine x_put (ci := 6) (v := .ref r_18) (ty := .object "ExactFilter$Table") (C := RX6) (T := TX6) (N := 10) hx hb hg ku_X6 tyX6 tyX6_ok nmX6 hown hK hI heh_34 rfl 8 (by decide) (hg _ kf_X6_34) (fun _ h9 => h9) rfl (by decide +kernel) rfl rfl hlen39 dX6_init_39 (fun H locs hI => ?_)
  have hI : x_I G (x_A h0 s.heap.size) s.heap (x_up h_34 x0 (.inr (6, ((((fs_24 : List Value).set 5 (.ref r_18) : List Value).set 6 (.ref r_18) : List Value).set 7 (.ref r_18) : List Value).set 8 (.ref r_18)))) H locs := hI
  obtain ⟨h_39, eh_39⟩ : ∃ z : xH, z = x_up h_34 x0 (.inr (6, ((((fs_24 : List Value).set 5 (.ref r_18) : List Value).set 6 (.ref r_18) : List Value).set 7 (.ref r_18) : List Value).set 8 (.ref r_18))) := ⟨_, rfl⟩
  rw [← eh_39] at hI
  have hw := hw h_39 eh_39
  have heh_39 : h_39 x0 = some (.inr (6, ((((fs_24 : List Value).set 5 (.ref r_18) : List Value).set 6 (.ref r_18) : List Value).set 7 (.ref r_18) : List Value).set 8 (.ref r_18))) := by rw [eh_39]; exact x_up_s
  refine lv_aload_n hx hb dX6_init_42 rfl (lv_at hl 1 rfl) ?_
  refine lv_aload_n hx hb dX6_init_43 rfl (lv_at hl 0 rfl) ?_
  obtain ⟨hlen44, hw⟩ := hw
  refine x_put (ci := 6) (v := .ref r_18) (ty := .object "ExactFilter$Table") (C := RX6) (T := TX6) (N := 10) hx hb hg ku_X6 tyX6 tyX6_ok nmX6 hown hK hI heh_39 rfl 9 (by decide) (hg _ kf_X6_37) (fun _ h9 => h9) rfl (by decide +kernel) rfl rfl hlen44 dX6_init_44 (fun H locs hI => ?_)
  have hI : x_I G (x_A h0 s.heap.size) s.heap (x_up h_39 x0 (.inr (6, (((((fs_24 : List Value).set 5 (.ref r_18) : List Value).set 6 (.ref r_18) : List Value).set 7 (.ref r_18) : List Value).set 8 (.ref r_18) : List Value).set 9 (.ref r_18)))) H locs := hI
  obtain ⟨h_44, eh_44⟩ : ∃ z : xH, z = x_up h_39 x0 (.inr (6, (((((fs_24 : List Value).set 5 (.ref r_18) : List Value).set 6 (.ref r_18) : List Value).set 7 (.ref r_18) : List Value).set 8 (.ref r_18) : List Value).set 9 (.ref r_18))) := ⟨_, rfl⟩
  rw [← eh_44] at hI
  have hw := hw h_44 eh_44
  have heh_44 : h_44 x0 = some (.inr (6, (((((fs_24 : List Value).set 5 (.ref r_18) : List Value).set 6 (.ref r_18) : List Value).set 7 (.ref r_18) : List Value).set 8 (.ref r_18) : List Value).set 9 (.ref r_18))) := by rw [eh_44]; exact x_up_s
  exact x_vret hx hb hr hlocks hI hw (by omega) (by omega) dX6_init_47
-- ===== ExactFilter.isFraction
abbrev rX6_isFraction  : Room := { frames := 0, cells := 0, slots := 0, locals := 0 }
set_option maxRecDepth 100000 in
def wj_X6_isFraction_28 (h0 : xH) (post : Int32 → Prop)  (s0 : Int32) : Prop := narrow .boolean (.int s0) = .int s0 ∧ post s0
set_option maxRecDepth 100000 in
def wj_X6_isFraction_27 (h0 : xH) (post : Int32 → Prop)   : Prop := wj_X6_isFraction_28 h0 post  0
set_option maxRecDepth 100000 in
def wp_X6_isFraction (h0 : xH)  (x0 : Int32) (x1 : Int32) (post : Int32 → Prop) : Prop := (x0 < (-20) → wj_X6_isFraction_27 h0 post  ) ∧ (¬ x0 < (-20) → (20 < x0 → wj_X6_isFraction_27 h0 post  ) ∧ (¬ 20 < x0 → (x1 < 1 → wj_X6_isFraction_27 h0 post  ) ∧ (¬ x1 < 1 → (20 < x1 → wj_X6_isFraction_27 h0 post  ) ∧ (¬ 20 < x1 → wj_X6_isFraction_28 h0 post  1))))
set_option maxHeartbeats 4000000 in
set_option maxRecDepth 100000 in
theorem mj_X6_isFraction_28 (C : CX p s m args meth c G RX6 cX6_isFraction 2 (some .boolean)) (h0 : xH) (post : Int32 → Prop) 
    
    (s0 : Int32) (H : Heap) (locs : List Loc) (ls : Array Slot) (nc ns : Nat) (hw : wj_X6_isFraction_28 h0 post  s0) (hI : x_I G (x_A h0 s.heap.size) s.heap h0 H locs) (hkc : nc + 0 ≤ 0) (hks : ns + 0 ≤ 0) (hl : lv_has ls 2 []) : W p l e (rX6_isFraction) s m args below meth c H locs nc ns (MQ below (x_Qi G h0 s.heap.size (fun r9 h9 => h9 = h0 ∧ post r9)) args s 0 0 (x_A h0 s.heap.size)) (F0 m 28 ls [.int s0]) := by
  obtain ⟨hx, hb, hr, hml, hown, hg, hlocks, hK⟩ := id C
  unfold wj_X6_isFraction_28 at hw
  exact x_zret hx hb hr hw.1 hlocks hI ⟨rfl, hw.2⟩ (by omega) (by omega) dX6_isFraction_28
set_option maxHeartbeats 4000000 in
set_option maxRecDepth 100000 in
theorem mj_X6_isFraction_27 (C : CX p s m args meth c G RX6 cX6_isFraction 2 (some .boolean)) (h0 : xH) (post : Int32 → Prop) 
    
     (H : Heap) (locs : List Loc) (ls : Array Slot) (nc ns : Nat) (hw : wj_X6_isFraction_27 h0 post  ) (hI : x_I G (x_A h0 s.heap.size) s.heap h0 H locs) (hkc : nc + 0 ≤ 0) (hks : ns + 0 ≤ 0) (hl : lv_has ls 2 []) : W p l e (rX6_isFraction) s m args below meth c H locs nc ns (MQ below (x_Qi G h0 s.heap.size (fun r9 h9 => h9 = h0 ∧ post r9)) args s 0 0 (x_A h0 s.heap.size)) (F0 m 27 ls []) := by
  obtain ⟨hx, hb, hr, hml, hown, hg, hlocks, hK⟩ := id C
  unfold wj_X6_isFraction_27 at hw
  refine lv_iconst (v := 0) hx hb dX6_isFraction_27 (by decide) ?_
  exact mj_X6_isFraction_28 C h0 post  _ _ _ _ _ _ hw hI (by omega) (by omega) (lv_sub hl [] rfl)
set_option maxHeartbeats 4000000 in
set_option maxRecDepth 100000 in
theorem m_X6_isFraction (l : Launch) (G : xG) (h0 : xH)  (x0 : Int32) (x1 : Int32) (post : Int32 → Prop) (hw : wp_X6_isFraction h0  x0 x1 post) (sz : Nat) : Met l yX6_isFraction (wu yX6_isFraction cX6_isFraction 2 (some .boolean)) (rX6_isFraction) (x_Pc G [.int x0, .int x1] h0 sz) (x_Qi G h0 sz (fun r9 h9 => h9 = h0 ∧ post r9)) 0 0 (x_A h0 sz) := by
  refine Met.ofW (cc := cX6_isFraction) (maxL := 2) (ret := (some .boolean)) (by decide) rfl ?_
  intro p e s m args below meth c s₁ B hml hv
  obtain ⟨rfl, hsz, hR, hK⟩ := hv
  subst hsz
  have C : CX p s m _ meth c G RX6 cX6_isFraction 2 (some .boolean) := ⟨B.exec, B.bytes, B.returns, hml, findClass_of_methodNamed B.named, x_hg (atoms_spec (ws := wu yX6_isFraction cX6_isFraction 2 (some .boolean)) B.pre), B.notSynchronized, hK⟩
  obtain ⟨hx, hb, hr, hml, hown, hg, hlocks, hK⟩ := id C
  have hI : x_I G (x_A h0 s.heap.size) s.heap h0 s.heap [] := x_I.start hR
  have hkc : 0 + 0 ≤ 0 := by omega
  have hks : 0 + 0 ≤ 0 := by omega
  have hl := lv_entry ([.int x0, .int x1]) (n := 2) (Nat.le_of_ble_eq_true rfl)
  rw [lg_entry_eq]
  generalize (lg_sl ([.int x0, .int x1]) ++ List.replicate (2 - (lg_sl ([.int x0, .int x1])).length) Slot.unset).toArray = ls at hl ⊢
  have hl : lv_has ls 2 [(0, .int x0), (1, .int x1)] := hl
  unfold wp_X6_isFraction at hw
  refine lv_iload_n hx hb dX6_isFraction_0 rfl (lv_at hl 0 rfl) ?_
  refine lv_bipush (v := (-20)) hx hb dX6_isFraction_1 (by decide) ?_
  refine lv_icmp_lt (tgt := 27) hx hb dX6_isFraction_3 (by decide) (fun hc3 => ?_) (fun hc3 => ?_)
  · have hw := hw.1 hc3
    exact mj_X6_isFraction_27 C h0 post   _ _ _ _ _ hw hI (by omega) (by omega) (lv_sub hl [] rfl)
  · have hw := hw.2 hc3
    refine lv_iload_n hx hb dX6_isFraction_6 rfl (lv_at hl 0 rfl) ?_
    refine lv_bipush (v := 20) hx hb dX6_isFraction_7 (by decide) ?_
    refine lv_icmp_gt (tgt := 27) hx hb dX6_isFraction_9 (by decide) (fun hc9 => ?_) (fun hc9 => ?_)
    · have hw := hw.1 hc9
      exact mj_X6_isFraction_27 C h0 post   _ _ _ _ _ hw hI (by omega) (by omega) (lv_sub hl [] rfl)
    · have hw := hw.2 hc9
      refine lv_iload_n hx hb dX6_isFraction_12 rfl (lv_at hl 1 rfl) ?_
      refine lv_iconst (v := 1) hx hb dX6_isFraction_13 (by decide) ?_
      refine lv_icmp_lt (tgt := 27) hx hb dX6_isFraction_14 (by decide) (fun hc14 => ?_) (fun hc14 => ?_)
      · have hw := hw.1 hc14
        exact mj_X6_isFraction_27 C h0 post   _ _ _ _ _ hw hI (by omega) (by omega) (lv_sub hl [] rfl)
      · have hw := hw.2 hc14
        refine lv_iload_n hx hb dX6_isFraction_17 rfl (lv_at hl 1 rfl) ?_
        refine lv_bipush (v := 20) hx hb dX6_isFraction_18 (by decide) ?_
        refine lv_icmp_gt (tgt := 27) hx hb dX6_isFraction_20 (by decide) (fun hc20 => ?_) (fun hc20 => ?_)
        · have hw := hw.1 hc20
          exact mj_X6_isFraction_27 C h0 post   _ _ _ _ _ hw hI (by omega) (by omega) (lv_sub hl [] rfl)
        · have hw := hw.2 hc20
          refine lv_iconst (v := 1) hx hb dX6_isFraction_23 (by decide) ?_
          refine lv_goto (tgt := 28) hx hb dX6_isFraction_24 (by decide) ?_
          exact mj_X6_isFraction_28 C h0 post  _ _ _ _ _ _ hw hI (by omega) (by omega) (lv_sub hl [] rfl)
-- ===== ExactFilter.tableOf
abbrev rX6_tableOf  : Room := { frames := 0, cells := 0, slots := 0, locals := 0 }
set_option maxRecDepth 100000 in
def wp_X6_tableOf (h0 : xH)  (x0 : Nat) (x1 : Int32) (post : Nat → Prop) : Prop := (((x1).toInt < 1 ∨ 4 < (x1).toInt) → ∃ fs_53 : List Value, h0 x0 = some (.inr (6, fs_53)) ∧ ∃ v_53 : Nat, fs_53[5]? = some (.ref v_53) ∧ post v_53) ∧ (x1 = 1 → ∃ fs_33 : List Value, h0 x0 = some (.inr (6, fs_33)) ∧ ∃ v_33 : Nat, fs_33[6]? = some (.ref v_33) ∧ post v_33) ∧ (x1 = 2 → ∃ fs_38 : List Value, h0 x0 = some (.inr (6, fs_38)) ∧ ∃ v_38 : Nat, fs_38[7]? = some (.ref v_38) ∧ post v_38) ∧ (x1 = 3 → ∃ fs_43 : List Value, h0 x0 = some (.inr (6, fs_43)) ∧ ∃ v_43 : Nat, fs_43[8]? = some (.ref v_43) ∧ post v_43) ∧ (x1 = 4 → ∃ fs_48 : List Value, h0 x0 = some (.inr (6, fs_48)) ∧ ∃ v_48 : Nat, fs_48[9]? = some (.ref v_48) ∧ post v_48)
set_option maxHeartbeats 4000000 in
set_option maxRecDepth 100000 in
theorem m_X6_tableOf (l : Launch) (G : xG) (h0 : xH)  (x0 : Nat) (x1 : Int32) (post : Nat → Prop) (hw : wp_X6_tableOf h0  x0 x1 post) (sz : Nat) : Met l yX6_tableOf (wu yX6_tableOf cX6_tableOf 2 (some (.object "ExactFilter$Table"))) (rX6_tableOf) (x_Pc G [.ref x0, .int x1] h0 sz) (x_Qr G h0 sz (fun r9 h9 => h9 = h0 ∧ post r9)) 0 0 (x_A h0 sz) := by
  refine Met.ofW (cc := cX6_tableOf) (maxL := 2) (ret := (some (.object "ExactFilter$Table"))) (by decide) rfl ?_
  intro p e s m args below meth c s₁ B hml hv
  obtain ⟨rfl, hsz, hR, hK⟩ := hv
  subst hsz
  have C : CX p s m _ meth c G RX6 cX6_tableOf 2 (some (.object "ExactFilter$Table")) := ⟨B.exec, B.bytes, B.returns, hml, findClass_of_methodNamed B.named, x_hg (atoms_spec (ws := wu yX6_tableOf cX6_tableOf 2 (some (.object "ExactFilter$Table"))) B.pre), B.notSynchronized, hK⟩
  obtain ⟨hx, hb, hr, hml, hown, hg, hlocks, hK⟩ := id C
  have hI : x_I G (x_A h0 s.heap.size) s.heap h0 s.heap [] := x_I.start hR
  have hkc : 0 + 0 ≤ 0 := by omega
  have hks : 0 + 0 ≤ 0 := by omega
  have hl := lv_entry ([.ref x0, .int x1]) (n := 2) (Nat.le_of_ble_eq_true rfl)
  rw [lg_entry_eq]
  generalize (lg_sl ([.ref x0, .int x1]) ++ List.replicate (2 - (lg_sl ([.ref x0, .int x1])).length) Slot.unset).toArray = ls at hl ⊢
  have hl : lv_has ls 2 [(0, .ref x0), (1, .int x1)] := hl
  unfold wp_X6_tableOf at hw
  refine lv_iload_n hx hb dX6_tableOf_0 rfl (lv_at hl 1 rfl) ?_
  rcases x_sw x1 1 4 with hsw | ⟨j9, hj9, hsw⟩
  · have hw := hw.1 hsw
    refine lv_tableOut (tgt := 52) hx hb dX6_tableOf_1 hsw (by decide) ?_
    refine lv_aload_n hx hb dX6_tableOf_52 rfl (lv_at hl 0 rfl) ?_
    obtain ⟨fs_53, he_53, hw⟩ := hw
    obtain ⟨v_53, hv_53, hw⟩ := hw
    refine x_get (ci := 6) (C := RX6) (T := TX6) (N := 10) hx hb hg ku_X6 hown hK hI he_53 rfl 5 (by decide) (hg _ kf_X6_24) (fun _ h9 => h9) hv_53 dX6_tableOf_53 ?_
    exact x_aret hx hb hr (by first | exact Or.inl ⟨_, rfl⟩ | exact Or.inr ⟨_, rfl⟩) hlocks hI ⟨rfl, hw⟩ (by omega) (by omega) dX6_tableOf_56
  · have hw := hw.2
    match j9, hj9 with
    | 0, _ =>
      have hsw : x1 = 1 := hsw
      have hw := hw.1 hsw
      refine lv_tableIn (tgt := 32) hx hb dX6_tableOf_1 (by rw [hsw]; decide) (by rw [hsw]; decide) (by rw [hsw]; rfl) (by decide) ?_
      refine lv_aload_n hx hb dX6_tableOf_32 rfl (lv_at hl 0 rfl) ?_
      obtain ⟨fs_33, he_33, hw⟩ := hw
      obtain ⟨v_33, hv_33, hw⟩ := hw
      refine x_get (ci := 6) (C := RX6) (T := TX6) (N := 10) hx hb hg ku_X6 hown hK hI he_33 rfl 6 (by decide) (hg _ kf_X6_28) (fun _ h9 => h9) hv_33 dX6_tableOf_33 ?_
      exact x_aret hx hb hr (by first | exact Or.inl ⟨_, rfl⟩ | exact Or.inr ⟨_, rfl⟩) hlocks hI ⟨rfl, hw⟩ (by omega) (by omega) dX6_tableOf_36
    | 1, _ =>
      have hsw : x1 = 2 := hsw
      have hw := hw.2.1 hsw
      refine lv_tableIn (tgt := 37) hx hb dX6_tableOf_1 (by rw [hsw]; decide) (by rw [hsw]; decide) (by rw [hsw]; rfl) (by decide) ?_
      refine lv_aload_n hx hb dX6_tableOf_37 rfl (lv_at hl 0 rfl) ?_
      obtain ⟨fs_38, he_38, hw⟩ := hw
      obtain ⟨v_38, hv_38, hw⟩ := hw
      refine x_get (ci := 6) (C := RX6) (T := TX6) (N := 10) hx hb hg ku_X6 hown hK hI he_38 rfl 7 (by decide) (hg _ kf_X6_31) (fun _ h9 => h9) hv_38 dX6_tableOf_38 ?_
      exact x_aret hx hb hr (by first | exact Or.inl ⟨_, rfl⟩ | exact Or.inr ⟨_, rfl⟩) hlocks hI ⟨rfl, hw⟩ (by omega) (by omega) dX6_tableOf_41
    | 2, _ =>
      have hsw : x1 = 3 := hsw
      have hw := hw.2.2.1 hsw
      refine lv_tableIn (tgt := 42) hx hb dX6_tableOf_1 (by rw [hsw]; decide) (by rw [hsw]; decide) (by rw [hsw]; rfl) (by decide) ?_
      refine lv_aload_n hx hb dX6_tableOf_42 rfl (lv_at hl 0 rfl) ?_
      obtain ⟨fs_43, he_43, hw⟩ := hw
      obtain ⟨v_43, hv_43, hw⟩ := hw
      refine x_get (ci := 6) (C := RX6) (T := TX6) (N := 10) hx hb hg ku_X6 hown hK hI he_43 rfl 8 (by decide) (hg _ kf_X6_34) (fun _ h9 => h9) hv_43 dX6_tableOf_43 ?_
      exact x_aret hx hb hr (by first | exact Or.inl ⟨_, rfl⟩ | exact Or.inr ⟨_, rfl⟩) hlocks hI ⟨rfl, hw⟩ (by omega) (by omega) dX6_tableOf_46
    | 3, _ =>
      have hsw : x1 = 4 := hsw
      have hw := hw.2.2.2 hsw
      refine lv_tableIn (tgt := 47) hx hb dX6_tableOf_1 (by rw [hsw]; decide) (by rw [hsw]; decide) (by rw [hsw]; rfl) (by decide) ?_
      refine lv_aload_n hx hb dX6_tableOf_47 rfl (lv_at hl 0 rfl) ?_
      obtain ⟨fs_48, he_48, hw⟩ := hw
      obtain ⟨v_48, hv_48, hw⟩ := hw
      refine x_get (ci := 6) (C := RX6) (T := TX6) (N := 10) hx hb hg ku_X6 hown hK hI he_48 rfl 9 (by decide) (hg _ kf_X6_37) (fun _ h9 => h9) hv_48 dX6_tableOf_48 ?_
      exact x_aret hx hb hr (by first | exact Or.inl ⟨_, rfl⟩ | exact Or.inr ⟨_, rfl⟩) hlocks hI ⟨rfl, hw⟩ (by omega) (by omega) dX6_tableOf_51
    | j9 + 4, hj9 => exact absurd hj9 (by omega)
-- ===== ExactFilter.about
abbrev rX6_about  : Room := { frames := 1, cells := 0, slots := 0, locals := 20 }
set_option maxRecDepth 100000 in
def wj_X6_about_52 (h0 : xH) (post : Int32 → Prop)  (s0 : Int32) : Prop := post s0
set_option maxRecDepth 100000 in
def wp_X6_about (h0 : xH)  (x0 : Nat) (x1 : Int32) (post : Int32 → Prop) : Prop := (((x1).toInt < 0 ∨ 3 < (x1).toInt) → post (-1)) ∧ (x1 = 0 → ∃ fs_33 : List Value, h0 x0 = some (.inr (6, fs_33)) ∧ ∃ v_33 : Nat, fs_33[0]? = some (.ref v_33) ∧ ∃ fs_36 : List Value, h0 v_33 = some (.inr (1, fs_36)) ∧ wp_X1_size h0  v_33 (fun (r_36 : Int32) => post r_36)) ∧ (x1 = 1 → ∃ fs_41 : List Value, h0 x0 = some (.inr (6, fs_41)) ∧ ∃ v_41 : Int32, fs_41[2]? = some (.int v_41) ∧ (v_41 = 0 → wj_X6_about_52 h0 post  0) ∧ (¬ v_41 = 0 → wj_X6_about_52 h0 post  1)) ∧ (x1 = 2 → ∃ fs_54 : List Value, h0 x0 = some (.inr (6, fs_54)) ∧ ∃ v_54 : Int32, fs_54[3]? = some (.int v_54) ∧ post v_54) ∧ (x1 = 3 → ∃ fs_59 : List Value, h0 x0 = some (.inr (6, fs_59)) ∧ ∃ v_59 : Int32, fs_59[4]? = some (.int v_59) ∧ post v_59)
set_option maxHeartbeats 4000000 in
set_option maxRecDepth 100000 in
theorem mj_X6_about_52 (C : CX p s m args meth c G RX6 cX6_about 2 (some .int)) (h0 : xH) (post : Int32 → Prop) 
    
    (s0 : Int32) (H : Heap) (locs : List Loc) (ls : Array Slot) (nc ns : Nat) (hw : wj_X6_about_52 h0 post  s0) (hI : x_I G (x_A h0 s.heap.size) s.heap h0 H locs) (hkc : nc + 0 ≤ 0) (hks : ns + 0 ≤ 0) (hl : lv_has ls 2 []) : W p l e (rX6_about) s m args below meth c H locs nc ns (MQ below (x_Qi G h0 s.heap.size (fun r9 h9 => h9 = h0 ∧ post r9)) args s 0 0 (x_A h0 s.heap.size)) (F0 m 52 ls [.int s0]) := by
  obtain ⟨hx, hb, hr, hml, hown, hg, hlocks, hK⟩ := id C
  unfold wj_X6_about_52 at hw
  exact x_iret hx hb hr hlocks hI ⟨rfl, hw⟩ (by omega) (by omega) dX6_about_52
set_option maxHeartbeats 4000000 in
set_option maxRecDepth 100000 in
theorem m_X6_about (l : Launch) (G : xG) (h0 : xH)  (x0 : Nat) (x1 : Int32) (post : Int32 → Prop) (hw : wp_X6_about h0  x0 x1 post) (sz : Nat) : Met l yX6_about (wu yX6_about cX6_about 2 (some .int)) (rX6_about) (x_Pc G [.ref x0, .int x1] h0 sz) (x_Qi G h0 sz (fun r9 h9 => h9 = h0 ∧ post r9)) 0 0 (x_A h0 sz) := by
  refine Met.ofW (cc := cX6_about) (maxL := 2) (ret := (some .int)) (by decide) rfl ?_
  intro p e s m args below meth c s₁ B hml hv
  obtain ⟨rfl, hsz, hR, hK⟩ := hv
  subst hsz
  have C : CX p s m _ meth c G RX6 cX6_about 2 (some .int) := ⟨B.exec, B.bytes, B.returns, hml, findClass_of_methodNamed B.named, x_hg (atoms_spec (ws := wu yX6_about cX6_about 2 (some .int)) B.pre), B.notSynchronized, hK⟩
  obtain ⟨hx, hb, hr, hml, hown, hg, hlocks, hK⟩ := id C
  have hI : x_I G (x_A h0 s.heap.size) s.heap h0 s.heap [] := x_I.start hR
  have hkc : 0 + 0 ≤ 0 := by omega
  have hks : 0 + 0 ≤ 0 := by omega
  have hl := lv_entry ([.ref x0, .int x1]) (n := 2) (Nat.le_of_ble_eq_true rfl)
  rw [lg_entry_eq]
  generalize (lg_sl ([.ref x0, .int x1]) ++ List.replicate (2 - (lg_sl ([.ref x0, .int x1])).length) Slot.unset).toArray = ls at hl ⊢
  have hl : lv_has ls 2 [(0, .ref x0), (1, .int x1)] := hl
  unfold wp_X6_about at hw
  refine lv_iload_n hx hb dX6_about_0 rfl (lv_at hl 1 rfl) ?_
  rcases x_sw x1 0 3 with hsw | ⟨j9, hj9, hsw⟩
  · have hw := hw.1 hsw
    refine lv_tableOut (tgt := 63) hx hb dX6_about_1 hsw (by decide) ?_
    refine lv_iconst (v := (-1)) hx hb dX6_about_63 (by decide) ?_
    exact x_iret hx hb hr hlocks hI ⟨rfl, hw⟩ (by omega) (by omega) dX6_about_64
  · have hw := hw.2
    match j9, hj9 with
    | 0, _ =>
      have hsw : x1 = 0 := hsw
      have hw := hw.1 hsw
      refine lv_tableIn (tgt := 32) hx hb dX6_about_1 (by rw [hsw]; decide) (by rw [hsw]; decide) (by rw [hsw]; rfl) (by decide) ?_
      refine lv_aload_n hx hb dX6_about_32 rfl (lv_at hl 0 rfl) ?_
      obtain ⟨fs_33, he_33, hw⟩ := hw
      obtain ⟨v_33, hv_33, hw⟩ := hw
      refine x_get (ci := 6) (C := RX6) (T := TX6) (N := 10) hx hb hg ku_X6 hown hK hI he_33 rfl 0 (by decide) (hg _ kf_X6_12) (fun _ h9 => h9) hv_33 dX6_about_33 ?_
      obtain ⟨fs_36, he_36, hw⟩ := hw
      refine x_ci (va_runV (As := []) (rest := []) ⟨hx, hb, hml, hown, hg⟩ (m_X1_size l G h0  v_33 _ hw s.heap.size) (cwV 0 hg (x_gV km_X6_139 ki_X1_size kz_X1_X1_size kn_X1 kk_X1_size) rfl rfl rfl (by decide +kernel) ⟨Nat.le_of_ble_eq_true rfl, Nat.le_of_ble_eq_true rfl⟩) ⟨x_blind, x_recv hI hK he_36 rfl rfl, x_pre hI hK⟩ rfl rfl hl.1 rfl (lv_room (Nat.le_of_ble_eq_true rfl)) dX6_about_36 ⟨show 0 + 0 ≤ 0 by omega, show 0 + 0 ≤ 0 by omega⟩) hI (fun r_36 h_36 H locs hw hI => ?_)
      obtain ⟨eh_36, hw⟩ := hw
      rw [eh_36] at hI
      exact x_iret hx hb hr hlocks hI ⟨rfl, hw⟩ (by omega) (by omega) dX6_about_39
    | 1, _ =>
      have hsw : x1 = 1 := hsw
      have hw := hw.2.1 hsw
      refine lv_tableIn (tgt := 40) hx hb dX6_about_1 (by rw [hsw]; decide) (by rw [hsw]; decide) (by rw [hsw]; rfl) (by decide) ?_
      refine lv_aload_n hx hb dX6_about_40 rfl (lv_at hl 0 rfl) ?_
      obtain ⟨fs_41, he_41, hw⟩ := hw
      obtain ⟨v_41, hv_41, hw⟩ := hw
      refine x_get (ci := 6) (C := RX6) (T := TX6) (N := 10) hx hb hg ku_X6 hown hK hI he_41 rfl 2 (by decide) (hg _ kf_X6_43) (fun _ h9 => h9) hv_41 dX6_about_41 ?_
      refine lv_if_eq (tgt := 51) hx hb dX6_about_44 (by decide) (fun hc44 => ?_) (fun hc44 => ?_)
      · have hw := hw.1 hc44
        refine lv_iconst (v := 0) hx hb dX6_about_51 (by decide) ?_
        exact mj_X6_about_52 C h0 post  _ _ _ _ _ _ hw hI (by omega) (by omega) (lv_sub hl [] rfl)
      · have hw := hw.2 hc44
        refine lv_iconst (v := 1) hx hb dX6_about_47 (by decide) ?_
        refine lv_goto (tgt := 52) hx hb dX6_about_48 (by decide) ?_
        exact mj_X6_about_52 C h0 post  _ _ _ _ _ _ hw hI (by omega) (by omega) (lv_sub hl [] rfl)
    | 2, _ =>
      have hsw : x1 = 2 := hsw
      have hw := hw.2.2.1 hsw
      refine lv_tableIn (tgt := 53) hx hb dX6_about_1 (by rw [hsw]; decide) (by rw [hsw]; decide) (by rw [hsw]; rfl) (by decide) ?_
      refine lv_aload_n hx hb dX6_about_53 rfl (lv_at hl 0 rfl) ?_
      obtain ⟨fs_54, he_54, hw⟩ := hw
      obtain ⟨v_54, hv_54, hw⟩ := hw
      refine x_get (ci := 6) (C := RX6) (T := TX6) (N := 10) hx hb hg ku_X6 hown hK hI he_54 rfl 3 (by decide) (hg _ kf_X6_47) (fun _ h9 => h9) hv_54 dX6_about_54 ?_
      exact x_iret hx hb hr hlocks hI ⟨rfl, hw⟩ (by omega) (by omega) dX6_about_57
    | 3, _ =>
      have hsw : x1 = 3 := hsw
      have hw := hw.2.2.2 hsw
      refine lv_tableIn (tgt := 58) hx hb dX6_about_1 (by rw [hsw]; decide) (by rw [hsw]; decide) (by rw [hsw]; rfl) (by decide) ?_
      refine lv_aload_n hx hb dX6_about_58 rfl (lv_at hl 0 rfl) ?_
      obtain ⟨fs_59, he_59, hw⟩ := hw
      obtain ⟨v_59, hv_59, hw⟩ := hw
      refine x_get (ci := 6) (C := RX6) (T := TX6) (N := 10) hx hb hg ku_X6 hown hK hI he_59 rfl 4 (by decide) (hg _ kf_X6_51) (fun _ h9 => h9) hv_59 dX6_about_59 ?_
      exact x_iret hx hb hr hlocks hI ⟨rfl, hw⟩ (by omega) (by omega) dX6_about_62
    | j9 + 4, hj9 => exact absurd hj9 (by omega)
-- ===== ExactFilter.begin
abbrev rX6_begin (mc ms : Nat) : Room := { frames := 6, cells := mc, slots := ms, locals := 81 }
set_option maxRecDepth 100000 in
def wj_X6_begin_18  (post : xH → Prop) (postx : String → xH → Prop)  (h : xH) (kc : Nat) (ks : Nat) (x0 : Nat) (x1 : Int32) : Prop := 1 ≤ kc ∧ 2 ≤ ks ∧ ∀ q_19 : Nat, x_fresh h q_19 → ∀ h_19 : xH, h_19 = x_up h q_19 (.inr (1, [.int 0, .null])) → ∃ mc_24 ms_24 : Nat, mc_24 ≤ (kc - 1) ∧ ms_24 ≤ (ks - 2) ∧ wp_X1_init h_19 mc_24 ms_24 q_19 x1 (fun (h_24 : xH) => ∃ fs_27 : List Value, h_24 x0 = some (.inr (6, fs_27)) ∧ 0 < (fs_27 : List Value).length ∧ ∀ h_27 : xH, h_27 = x_up h_24 x0 (.inr (6, (fs_27 : List Value).set 0 (.ref q_19))) → 2 < ((fs_27 : List Value).set 0 (.ref q_19) : List Value).length ∧ ∀ h_32 : xH, h_32 = x_up h_27 x0 (.inr (6, ((fs_27 : List Value).set 0 (.ref q_19) : List Value).set 2 (.int 0))) → 3 < (((fs_27 : List Value).set 0 (.ref q_19) : List Value).set 2 (.int 0) : List Value).length ∧ ∀ h_37 : xH, h_37 = x_up h_32 x0 (.inr (6, (((fs_27 : List Value).set 0 (.ref q_19) : List Value).set 2 (.int 0) : List Value).set 3 (.int 0))) → 4 < ((((fs_27 : List Value).set 0 (.ref q_19) : List Value).set 2 (.int 0) : List Value).set 3 (.int 0) : List Value).length ∧ ∀ h_42 : xH, h_42 = x_up h_37 x0 (.inr (6, ((((fs_27 : List Value).set 0 (.ref q_19) : List Value).set 2 (.int 0) : List Value).set 3 (.int 0) : List Value).set 4 (.int 0))) → post h_42)
set_option maxRecDepth 100000 in
def wp_X6_begin (h0 : xH) (mc ms : Nat) (x0 : Nat) (x1 : Int32) (post : xH → Prop) (postx : String → xH → Prop) : Prop := (x1 = 1 → wj_X6_begin_18  post postx  h0 mc ms x0 x1) ∧ (¬ x1 = 1 → (x1 = 2 → wj_X6_begin_18  post postx  h0 mc ms x0 x1) ∧ (¬ x1 = 2 → 1 ≤ mc ∧ 6 ≤ ms ∧ postx EIA h0))
set_option maxHeartbeats 4000000 in
set_option maxRecDepth 100000 in
theorem mj_X6_begin_18 {h0 : xH} (C : CXT p l s m args meth c G RX6 cX6_begin 2 none h0) (mc ms : Nat) (post : xH → Prop) (postx : String → xH → Prop) 
    
    (h : xH) (kc : Nat) (ks : Nat) (x0 : Nat) (x1 : Int32) (H : Heap) (locs : List Loc) (ls : Array Slot) (nc ns : Nat) (hw : wj_X6_begin_18  post postx  h kc ks x0 x1) (hI : x_I G (x_A h0 s.heap.size) s.heap h H locs) (hkc : nc + kc ≤ mc) (hks : ns + ks ≤ ms) (hl : lv_has ls 2 [(0, .ref x0), (1, .int x1)]) : W p l e (rX6_begin mc ms) s m args below meth c H locs nc ns (vx_MQ below (x_Qv G h0 s.heap.size post) (x_X G h0 s.heap.size postx) args s mc ms (x_A h0 s.heap.size)) (F0 m 18 ls []) := by
  obtain ⟨⟨hx, hb, hr, hml, hown, hg, hlocks, hK⟩, hno, hZ, hst⟩ := id C
  unfold wj_X6_begin_18 at hw
  refine lv_aload_n hx hb dX6_begin_18 rfl (lv_at hl 0 rfl) ?_
  obtain ⟨hkc1, hks1, hw⟩ := hw
  refine x_new (ci := 1) (fs := [.int 0, .null]) (C := RX1) (T := TX1) (N := 2) hx hb hg ku_X1 tyX1 tyX1_ok hown (hg _ kl_X6_7) (hg _ kt_X1) (hg _ kn_X1) hK hI rfl (by decide +kernel) (show nc + 1 ≤ mc by omega) (show ns + 2 ≤ ms by omega) dX6_begin_19 (fun q_19 H hfr19 hI => ?_)
  have hw := hw q_19 hfr19
  obtain ⟨h_19, eh_19⟩ : ∃ z : xH, z = x_up h q_19 (.inr (1, [.int 0, .null])) := ⟨_, rfl⟩
  rw [← eh_19] at hI
  have hw := hw h_19 eh_19
  have heh_19 : h_19 q_19 = some (.inr (1, [.int 0, .null])) := by rw [eh_19]; exact x_up_s
  refine lv_dup hx hb dX6_begin_22 rfl ?_
  refine lv_iload_n hx hb dX6_begin_23 rfl (lv_at hl 1 rfl) ?_
  obtain ⟨mc_24, ms_24, hkc1, hks1, hw⟩ := hw
  refine x_cv (va_runI (As := [.int x1]) (rest := [.ref q_19, .ref x0]) ⟨hx, hb, hml, hown, hg⟩ (m_X1_init l G h_19 mc_24 ms_24 q_19 x1 _ hw H.size) (cwI 1 hg (x_gI kk_X1_init) rfl rfl rfl (hg _ kn_X1) (hg _ km_X6_9) (hg _ ki_X1_init) rfl (by decide +kernel) ⟨Nat.le_of_ble_eq_true rfl, Nat.le_of_ble_eq_true rfl⟩) ⟨x_blind, x_pre hI hK⟩ rfl rfl hl.1 rfl (lv_room (Nat.le_of_ble_eq_true rfl)) dX6_begin_24 ⟨show nc + 1 + mc_24 ≤ mc by omega, show ns + 2 + ms_24 ≤ ms by omega⟩) hI (fun h_24 H locs hw hI => ?_)
  obtain ⟨fs_27, he_27, hw⟩ := hw
  obtain ⟨hlen27, hw⟩ := hw
  refine x_put (ci := 6) (v := .ref q_19) (ty := .object "ExactFilter$Model") (C := RX6) (T := TX6) (N := 10) hx hb hg ku_X6 tyX6 tyX6_ok nmX6 hown hK hI he_27 rfl 0 (by decide) (hg _ kf_X6_12) (fun _ h9 => h9) rfl (by decide +kernel) rfl rfl hlen27 dX6_begin_27 (fun H locs hI => ?_)
  have hI : x_I G (x_A h0 s.heap.size) s.heap (x_up h_24 x0 (.inr (6, (fs_27 : List Value).set 0 (.ref q_19)))) H locs := hI
  obtain ⟨h_27, eh_27⟩ : ∃ z : xH, z = x_up h_24 x0 (.inr (6, (fs_27 : List Value).set 0 (.ref q_19))) := ⟨_, rfl⟩
  rw [← eh_27] at hI
  have hw := hw h_27 eh_27
  have heh_27 : h_27 x0 = some (.inr (6, (fs_27 : List Value).set 0 (.ref q_19))) := by rw [eh_27]; exact x_up_s
  refine lv_aload_n hx hb dX6_begin_30 rfl (lv_at hl 0 rfl) ?_
  refine lv_iconst (v := 0) hx hb dX6_begin_31 (by decide) ?_
  obtain ⟨hlen32, hw⟩ := hw
  refine x_put (ci := 6) (v := .int 0) (ty := .boolean) (C := RX6) (T := TX6) (N := 10) hx hb hg ku_X6 tyX6 tyX6_ok nmX6 hown hK hI heh_27 rfl 2 (by decide) (hg _ kf_X6_43) (fun _ h9 => h9) rfl (by decide +kernel) rfl rfl hlen32 dX6_begin_32 (fun H locs hI => ?_)
  have hI : x_I G (x_A h0 s.heap.size) s.heap (x_up h_27 x0 (.inr (6, ((fs_27 : List Value).set 0 (.ref q_19) : List Value).set 2 (.int 0)))) H locs := hI
  obtain ⟨h_32, eh_32⟩ : ∃ z : xH, z = x_up h_27 x0 (.inr (6, ((fs_27 : List Value).set 0 (.ref q_19) : List Value).set 2 (.int 0))) := ⟨_, rfl⟩
  rw [← eh_32] at hI
  have hw := hw h_32 eh_32
  have heh_32 : h_32 x0 = some (.inr (6, ((fs_27 : List Value).set 0 (.ref q_19) : List Value).set 2 (.int 0))) := by rw [eh_32]; exact x_up_s
  refine lv_aload_n hx hb dX6_begin_35 rfl (lv_at hl 0 rfl) ?_
  refine lv_iconst (v := 0) hx hb dX6_begin_36 (by decide) ?_
  obtain ⟨hlen37, hw⟩ := hw
  refine x_put (ci := 6) (v := .int 0) (ty := .int) (C := RX6) (T := TX6) (N := 10) hx hb hg ku_X6 tyX6 tyX6_ok nmX6 hown hK hI heh_32 rfl 3 (by decide) (hg _ kf_X6_47) (fun _ h9 => h9) rfl (by decide +kernel) rfl rfl hlen37 dX6_begin_37 (fun H locs hI => ?_)
  have hI : x_I G (x_A h0 s.heap.size) s.heap (x_up h_32 x0 (.inr (6, (((fs_27 : List Value).set 0 (.ref q_19) : List Value).set 2 (.int 0) : List Value).set 3 (.int 0)))) H locs := hI
  obtain ⟨h_37, eh_37⟩ : ∃ z : xH, z = x_up h_32 x0 (.inr (6, (((fs_27 : List Value).set 0 (.ref q_19) : List Value).set 2 (.int 0) : List Value).set 3 (.int 0))) := ⟨_, rfl⟩
  rw [← eh_37] at hI
  have hw := hw h_37 eh_37
  have heh_37 : h_37 x0 = some (.inr (6, (((fs_27 : List Value).set 0 (.ref q_19) : List Value).set 2 (.int 0) : List Value).set 3 (.int 0))) := by rw [eh_37]; exact x_up_s
  refine lv_aload_n hx hb dX6_begin_40 rfl (lv_at hl 0 rfl) ?_
  refine lv_iconst (v := 0) hx hb dX6_begin_41 (by decide) ?_
  obtain ⟨hlen42, hw⟩ := hw
  refine x_put (ci := 6) (v := .int 0) (ty := .int) (C := RX6) (T := TX6) (N := 10) hx hb hg ku_X6 tyX6 tyX6_ok nmX6 hown hK hI heh_37 rfl 4 (by decide) (hg _ kf_X6_51) (fun _ h9 => h9) rfl (by decide +kernel) rfl rfl hlen42 dX6_begin_42 (fun H locs hI => ?_)
  have hI : x_I G (x_A h0 s.heap.size) s.heap (x_up h_37 x0 (.inr (6, ((((fs_27 : List Value).set 0 (.ref q_19) : List Value).set 2 (.int 0) : List Value).set 3 (.int 0) : List Value).set 4 (.int 0)))) H locs := hI
  obtain ⟨h_42, eh_42⟩ : ∃ z : xH, z = x_up h_37 x0 (.inr (6, ((((fs_27 : List Value).set 0 (.ref q_19) : List Value).set 2 (.int 0) : List Value).set 3 (.int 0) : List Value).set 4 (.int 0))) := ⟨_, rfl⟩
  rw [← eh_42] at hI
  have hw := hw h_42 eh_42
  have heh_42 : h_42 x0 = some (.inr (6, ((((fs_27 : List Value).set 0 (.ref q_19) : List Value).set 2 (.int 0) : List Value).set 3 (.int 0) : List Value).set 4 (.int 0))) := by rw [eh_42]; exact x_up_s
  exact vx_ret (x_vret hx hb hr hlocks hI hw (by omega) (by omega) dX6_begin_45)
set_option maxHeartbeats 4000000 in
set_option maxRecDepth 100000 in
theorem m_X6_begin (l : Launch) (hst : l.stackTraces = false) (G : xG) (h0 : xH) (mc ms : Nat) (x0 : Nat) (x1 : Int32) (post : xH → Prop) (postx : String → xH → Prop) (hw : wp_X6_begin h0 mc ms x0 x1 post postx) (sz : Nat) : vx_Met l yX6_begin (wu yX6_begin cX6_begin 2 none) (rX6_begin mc ms) (x_Px G [.ref x0, .int x1] h0 sz) (x_Qv G h0 sz post) (x_X G h0 sz postx) mc ms (x_A h0 sz) := by
  refine vx_ofW (cc := cX6_begin) (maxL := 2) (ret := none) (by decide) rfl ?_
  intro p e s m args below meth c s₁ B hml hno hv
  obtain ⟨rfl, hsz, hR, hK, hZ⟩ := hv
  subst hsz
  have C : CXT p l s m _ meth c G RX6 cX6_begin 2 none h0 := ⟨⟨B.exec, B.bytes, B.returns, hml, findClass_of_methodNamed B.named, x_hg (atoms_spec (ws := wu yX6_begin cX6_begin 2 none) B.pre), B.notSynchronized, hK⟩, hno, hZ, hst⟩
  obtain ⟨⟨hx, hb, hr, hml, hown, hg, hlocks, hK⟩, hno, hZ, hst⟩ := id C
  have hI : x_I G (x_A h0 s.heap.size) s.heap h0 s.heap [] := x_I.start hR
  have hkc : 0 + mc ≤ mc := by omega
  have hks : 0 + ms ≤ ms := by omega
  have hl := lv_entry ([.ref x0, .int x1]) (n := 2) (Nat.le_of_ble_eq_true rfl)
  rw [lg_entry_eq]
  generalize (lg_sl ([.ref x0, .int x1]) ++ List.replicate (2 - (lg_sl ([.ref x0, .int x1])).length) Slot.unset).toArray = ls at hl ⊢
  have hl : lv_has ls 2 [(0, .ref x0), (1, .int x1)] := hl
  unfold wp_X6_begin at hw
  refine lv_iload_n hx hb dX6_begin_0 rfl (lv_at hl 1 rfl) ?_
  refine lv_iconst (v := 1) hx hb dX6_begin_1 (by decide) ?_
  refine lv_icmp_eq (tgt := 18) hx hb dX6_begin_2 (by decide) (fun hc2 => ?_) (fun hc2 => ?_)
  · have hw := hw.1 hc2
    exact mj_X6_begin_18 C mc ms post postx  _ _ _ _ _ _ _ _ _ _ hw hI (by omega) (by omega) (lv_sub hl [0, 1] rfl)
  · have hw := hw.2 hc2
    refine lv_iload_n hx hb dX6_begin_5 rfl (lv_at hl 1 rfl) ?_
    refine lv_iconst (v := 2) hx hb dX6_begin_6 (by decide) ?_
    refine lv_icmp_eq (tgt := 18) hx hb dX6_begin_7 (by decide) (fun hc7 => ?_) (fun hc7 => ?_)
    · have hw := hw.1 hc7
      exact mj_X6_begin_18 C mc ms post postx  _ _ _ _ _ _ _ _ _ _ hw hI (by omega) (by omega) (lv_sub hl [0, 1] rfl)
    · have hw := hw.2 hc7
      obtain ⟨hkc1, hks1, hw⟩ := hw
      exact x_thr hx hb hst hown (by decide +kernel) (hg _ (at_links _ (by decide +kernel))) (hg _ (at_links _ (by decide +kernel))) (x_at hg hZ.2.2 at_42a at_42b) at_42c hZ hI (by rw [hml]; exact hl.1) dX6_begin_10 dX6_begin_13 dX6_begin_14 dX6_begin_17 hno (Nat.le_of_ble_eq_true rfl) (Nat.le_of_ble_eq_true rfl) (show 0 + 1 ≤ mc by omega) (show 0 + 6 ≤ ms by omega) hlocks hw (show 0 + 1 ≤ mc by omega) (show 0 + 6 ≤ ms by omega)
-- ===== ExactFilter.set
abbrev rX6_set (mc ms : Nat) : Room := { frames := 6, cells := mc, slots := ms, locals := 81 }
set_option maxRecDepth 100000 in
def wj_X6_set_23  (post : xH → Prop) (postx : String → xH → Prop)  (h : xH) (kc : Nat) (ks : Nat) : Prop := 1 ≤ kc ∧ 6 ≤ ks ∧ postx EIA h
set_option maxRecDepth 100000 in
def wp_X6_set (h0 : xH) (mc ms : Nat) (x0 : Nat) (x1 : Int32) (x2 : Int32) (x3 : Int32) (x4 : Int32) (x5 : Int32) (post : xH → Prop) (postx : String → xH → Prop) : Prop := ∃ fs_1 : List Value, h0 x0 = some (.inr (6, fs_1)) ∧ ∃ v_1 : Nat, fs_1[0]? = some (.ref v_1) ∧ ∃ fs_7 : List Value, h0 v_1 = some (.inr (1, fs_7)) ∧ wp_X1_has h0  v_1 x1 x2 x3 (fun (r_7 : Int32) => (r_7 = 0 → wj_X6_set_23  post postx  h0 mc ms) ∧ (¬ r_7 = 0 → wp_X6_isFraction h0  x4 x5 (fun (r_17 : Int32) => (¬ r_17 = 0 → wp_X1_put h0  v_1 x1 x2 x3 x4 x5 (fun (h_42 : xH) => post h_42)) ∧ (r_17 = 0 → wj_X6_set_23  post postx  h0 mc ms))))
set_option maxHeartbeats 4000000 in
set_option maxRecDepth 100000 in
theorem mj_X6_set_23 {h0 : xH} (C : CXT p l s m args meth c G RX6 cX6_set 6 none h0) (mc ms : Nat) (post : xH → Prop) (postx : String → xH → Prop) 
    
    (h : xH) (kc : Nat) (ks : Nat) (H : Heap) (locs : List Loc) (ls : Array Slot) (nc ns : Nat) (hw : wj_X6_set_23  post postx  h kc ks) (hI : x_I G (x_A h0 s.heap.size) s.heap h H locs) (hkc : nc + kc ≤ mc) (hks : ns + ks ≤ ms) (hl : lv_has ls 6 []) : W p l e (rX6_set mc ms) s m args below meth c H locs nc ns (vx_MQ below (x_Qv G h0 s.heap.size post) (x_X G h0 s.heap.size postx) args s mc ms (x_A h0 s.heap.size)) (F0 m 23 ls []) := by
  obtain ⟨⟨hx, hb, hr, hml, hown, hg, hlocks, hK⟩, hno, hZ, hst⟩ := id C
  unfold wj_X6_set_23 at hw
  obtain ⟨hkc1, hks1, hw⟩ := hw
  exact x_thr hx hb hst hown (by decide +kernel) (hg _ (at_links _ (by decide +kernel))) (hg _ (at_links _ (by decide +kernel))) (x_at hg hZ.2.2 at_42a at_42b) at_42c hZ hI (by rw [hml]; exact hl.1) dX6_set_23 dX6_set_26 dX6_set_27 dX6_set_30 hno (Nat.le_of_ble_eq_true rfl) (Nat.le_of_ble_eq_true rfl) (show nc + 1 ≤ mc by omega) (show ns + 6 ≤ ms by omega) hlocks hw (show nc + 1 ≤ mc by omega) (show ns + 6 ≤ ms by omega)
set_option maxHeartbeats 4000000 in
set_option maxRecDepth 100000 in
theorem m_X6_set (l : Launch) (hst : l.stackTraces = false) (G : xG) (h0 : xH) (mc ms : Nat) (x0 : Nat) (x1 : Int32) (x2 : Int32) (x3 : Int32) (x4 : Int32) (x5 : Int32) (post : xH → Prop) (postx : String → xH → Prop) (hw : wp_X6_set h0 mc ms x0 x1 x2 x3 x4 x5 post postx) (sz : Nat) : vx_Met l yX6_set (wu yX6_set cX6_set 6 none) (rX6_set mc ms) (x_Px G [.ref x0, .int x1, .int x2, .int x3, .int x4, .int x5] h0 sz) (x_Qv G h0 sz post) (x_X G h0 sz postx) mc ms (x_A h0 sz) := by
  refine vx_ofW (cc := cX6_set) (maxL := 6) (ret := none) (by decide) rfl ?_
  intro p e s m args below meth c s₁ B hml hno hv
  obtain ⟨rfl, hsz, hR, hK, hZ⟩ := hv
  subst hsz
  have C : CXT p l s m _ meth c G RX6 cX6_set 6 none h0 := ⟨⟨B.exec, B.bytes, B.returns, hml, findClass_of_methodNamed B.named, x_hg (atoms_spec (ws := wu yX6_set cX6_set 6 none) B.pre), B.notSynchronized, hK⟩, hno, hZ, hst⟩
  obtain ⟨⟨hx, hb, hr, hml, hown, hg, hlocks, hK⟩, hno, hZ, hst⟩ := id C
  have hI : x_I G (x_A h0 s.heap.size) s.heap h0 s.heap [] := x_I.start hR
  have hkc : 0 + mc ≤ mc := by omega
  have hks : 0 + ms ≤ ms := by omega
  have hl := lv_entry ([.ref x0, .int x1, .int x2, .int x3, .int x4, .int x5]) (n := 6) (Nat.le_of_ble_eq_true rfl)
  rw [lg_entry_eq]
  generalize (lg_sl ([.ref x0, .int x1, .int x2, .int x3, .int x4, .int x5]) ++ List.replicate (6 - (lg_sl ([.ref x0, .int x1, .int x2, .int x3, .int x4, .int x5])).length) Slot.unset).toArray = ls at hl ⊢
  have hl : lv_has ls 6 [(0, .ref x0), (1, .int x1), (2, .int x2), (3, .int x3), (4, .int x4), (5, .int x5)] := hl
  unfold wp_X6_set at hw
  refine lv_aload_n hx hb dX6_set_0 rfl (lv_at hl 0 rfl) ?_
  obtain ⟨fs_1, he_1, hw⟩ := hw
  obtain ⟨v_1, hv_1, hw⟩ := hw
  refine x_get (ci := 6) (C := RX6) (T := TX6) (N := 10) hx hb hg ku_X6 hown hK hI he_1 rfl 0 (by decide) (hg _ kf_X6_12) (fun _ h9 => h9) hv_1 dX6_set_1 ?_
  refine lv_iload_n hx hb dX6_set_4 rfl (lv_at hl 1 rfl) ?_
  refine lv_iload_n hx hb dX6_set_5 rfl (lv_at hl 2 rfl) ?_
  refine lv_iload_n hx hb dX6_set_6 rfl (lv_at hl 3 rfl) ?_
  obtain ⟨fs_7, he_7, hw⟩ := hw
  refine x_ci (va_runV (As := [.int x1, .int x2, .int x3]) (rest := []) ⟨hx, hb, hml, hown, hg⟩ (m_X1_has l G h0  v_1 x1 x2 x3 _ hw s.heap.size) (cwV 3 hg (x_gV km_X6_54 ki_X1_has kz_X1_X1_has kn_X1 kk_X1_has) rfl rfl rfl (by decide +kernel) ⟨Nat.le_of_ble_eq_true rfl, Nat.le_of_ble_eq_true rfl⟩) ⟨x_blind, x_recv hI hK he_7 rfl rfl, x_pre hI hK⟩ rfl rfl hl.1 rfl (lv_room (Nat.le_of_ble_eq_true rfl)) dX6_set_7 ⟨show 0 + 0 ≤ mc by omega, show 0 + 0 ≤ ms by omega⟩) hI (fun r_7 h_7 H locs hw hI => ?_)
  obtain ⟨eh_7, hw⟩ := hw
  rw [eh_7] at hI
  refine lv_if_eq (tgt := 23) hx hb dX6_set_10 (by decide) (fun hc10 => ?_) (fun hc10 => ?_)
  · have hw := hw.1 hc10
    exact mj_X6_set_23 C mc ms post postx  _ _ _ _ _ _ _ _ hw hI (by omega) (by omega) (lv_sub hl [] rfl)
  · have hw := hw.2 hc10
    refine lv_iload hx hb dX6_set_13 (lv_at hl 4 rfl) ?_
    refine lv_iload hx hb dX6_set_15 (lv_at hl 5 rfl) ?_
    refine x_ci (va_runS (As := [.int x4, .int x5]) (rest := []) ⟨hx, hb, hml, hown, hg⟩ (m_X6_isFraction l G h0  x4 x5 _ hw H.size) (va_cwS 2 hg (x_gS km_X6_58 ks_X6_isFraction kn_X6 kk_X6_isFraction) rfl rfl rfl (by decide +kernel) ⟨Nat.le_of_ble_eq_true rfl, Nat.le_of_ble_eq_true rfl⟩) ⟨x_blind, x_pre hI hK⟩ rfl rfl hl.1 rfl (lv_room (Nat.le_of_ble_eq_true rfl)) dX6_set_17 ⟨show 0 + 0 + 0 ≤ mc by omega, show 0 + 0 + 0 ≤ ms by omega⟩) hI (fun r_17 h_17 H locs hw hI => ?_)
    obtain ⟨eh_17, hw⟩ := hw
    rw [eh_17] at hI
    refine lv_if_ne (tgt := 31) hx hb dX6_set_20 (by decide) (fun hc20 => ?_) (fun hc20 => ?_)
    · have hw := hw.1 hc20
      refine lv_aload_n hx hb dX6_set_31 rfl (lv_at hl 0 rfl) ?_
      refine x_get (ci := 6) (C := RX6) (T := TX6) (N := 10) hx hb hg ku_X6 hown hK hI he_1 rfl 0 (by decide) (hg _ kf_X6_12) (fun _ h9 => h9) hv_1 dX6_set_32 ?_
      refine lv_iload_n hx hb dX6_set_35 rfl (lv_at hl 1 rfl) ?_
      refine lv_iload_n hx hb dX6_set_36 rfl (lv_at hl 2 rfl) ?_
      refine lv_iload_n hx hb dX6_set_37 rfl (lv_at hl 3 rfl) ?_
      refine lv_iload hx hb dX6_set_38 (lv_at hl 4 rfl) ?_
      refine lv_iload hx hb dX6_set_40 (lv_at hl 5 rfl) ?_
      refine x_cv (va_runV (As := [.int x1, .int x2, .int x3, .int x4, .int x5]) (rest := []) ⟨hx, hb, hml, hown, hg⟩ (m_X1_put l G h0  v_1 x1 x2 x3 x4 x5 _ hw H.size) (cwV 5 hg (x_gV km_X6_62 ki_X1_put kz_X1_X1_put kn_X1 kk_X1_put) rfl rfl rfl (by decide +kernel) ⟨Nat.le_of_ble_eq_true rfl, Nat.le_of_ble_eq_true rfl⟩) ⟨x_blind, x_recv hI hK he_7 rfl rfl, x_pre hI hK⟩ rfl rfl hl.1 rfl (lv_room (Nat.le_of_ble_eq_true rfl)) dX6_set_42 ⟨show 0 + 0 + 0 + 0 ≤ mc by omega, show 0 + 0 + 0 + 0 ≤ ms by omega⟩) hI (fun h_42 H locs hw hI => ?_)
      exact vx_ret (x_vret hx hb hr hlocks hI hw (by omega) (by omega) dX6_set_45)
    · have hw := hw.2 hc20
      exact mj_X6_set_23 C mc ms post postx  _ _ _ _ _ _ _ _ hw hI (by omega) (by omega) (lv_sub hl [] rfl)
-- ===== ExactFilter.start
abbrev rX6_start (mc ms : Nat) : Room := { frames := 6, cells := mc, slots := ms, locals := 113 }
set_option maxRecDepth 100000 in
def wj_X6_start_20  (post : xH → Prop) (postx : String → xH → Prop)  (h : xH) (kc : Nat) (ks : Nat) : Prop := 1 ≤ kc ∧ 6 ≤ ks ∧ postx EIS h
set_option maxRecDepth 100000 in
def wp_X6_start (h0 : xH) (mc ms : Nat) (x0 : Nat) (post : xH → Prop) (postx : String → xH → Prop) : Prop := ∃ fs_1 : List Value, h0 x0 = some (.inr (6, fs_1)) ∧ ∃ v_1 : Nat, fs_1[0]? = some (.ref v_1) ∧ ∃ fs_5 : List Value, h0 v_1 = some (.inr (1, fs_5)) ∧ wp_X1_isFit h0  v_1 1 (fun (r_5 : Int32) => (r_5 = 0 → wj_X6_start_20  post postx  h0 mc ms) ∧ (¬ r_5 = 0 → ∃ v_12 : Int32, fs_1[1]? = some (.int v_12) ∧ (v_12 < 24 → ∃ mc_34 ms_34 : Nat, mc_34 ≤ mc ∧ ms_34 ≤ ms ∧ wp_X1_table h0 mc_34 ms_34 v_1 0 (fun (r_34 : Nat) (h_34 : xH) => ∃ fs_37 : List Value, h_34 x0 = some (.inr (6, fs_37)) ∧ 5 < (fs_37 : List Value).length ∧ ∀ h_37 : xH, h_37 = x_up h_34 x0 (.inr (6, (fs_37 : List Value).set 5 (.ref r_34))) → ∃ v_42 : Nat, ((fs_37 : List Value).set 5 (.ref r_34) : List Value)[0]? = some (.ref v_42) ∧ ∃ fs_46 : List Value, h_37 v_42 = some (.inr (1, fs_46)) ∧ ∃ mc_46 ms_46 : Nat, mc_46 ≤ (mc - mc_34) ∧ ms_46 ≤ (ms - ms_34) ∧ wp_X1_table h_37 mc_46 ms_46 v_42 1 (fun (r_46 : Nat) (h_46 : xH) => ∃ fs_49 : List Value, h_46 x0 = some (.inr (6, fs_49)) ∧ 6 < (fs_49 : List Value).length ∧ ∀ h_49 : xH, h_49 = x_up h_46 x0 (.inr (6, (fs_49 : List Value).set 6 (.ref r_46))) → ∃ v_54 : Int32, ((fs_49 : List Value).set 6 (.ref r_46) : List Value)[1]? = some (.int v_54) ∧ 1 < ((fs_49 : List Value).set 6 (.ref r_46) : List Value).length ∧ ∀ h_59 : xH, h_59 = x_up h_49 x0 (.inr (6, ((fs_49 : List Value).set 6 (.ref r_46) : List Value).set 1 (.int (v_54 + 1)))) → 2 < (((fs_49 : List Value).set 6 (.ref r_46) : List Value).set 1 (.int (v_54 + 1)) : List Value).length ∧ ∀ h_64 : xH, h_64 = x_up h_59 x0 (.inr (6, (((fs_49 : List Value).set 6 (.ref r_46) : List Value).set 1 (.int (v_54 + 1)) : List Value).set 2 (.int 1))) → 3 < ((((fs_49 : List Value).set 6 (.ref r_46) : List Value).set 1 (.int (v_54 + 1)) : List Value).set 2 (.int 1) : List Value).length ∧ ∀ h_69 : xH, h_69 = x_up h_64 x0 (.inr (6, ((((fs_49 : List Value).set 6 (.ref r_46) : List Value).set 1 (.int (v_54 + 1)) : List Value).set 2 (.int 1) : List Value).set 3 (.int 0))) → 4 < (((((fs_49 : List Value).set 6 (.ref r_46) : List Value).set 1 (.int (v_54 + 1)) : List Value).set 2 (.int 1) : List Value).set 3 (.int 0) : List Value).length ∧ ∀ h_74 : xH, h_74 = x_up h_69 x0 (.inr (6, (((((fs_49 : List Value).set 6 (.ref r_46) : List Value).set 1 (.int (v_54 + 1)) : List Value).set 2 (.int 1) : List Value).set 3 (.int 0) : List Value).set 4 (.int 0))) → post h_74))) ∧ (¬ v_12 < 24 → wj_X6_start_20  post postx  h0 mc ms)))
set_option maxHeartbeats 4000000 in
set_option maxRecDepth 100000 in
theorem mj_X6_start_20 {h0 : xH} (C : CXT p l s m args meth c G RX6 cX6_start 1 none h0) (mc ms : Nat) (post : xH → Prop) (postx : String → xH → Prop) 
    
    (h : xH) (kc : Nat) (ks : Nat) (H : Heap) (locs : List Loc) (ls : Array Slot) (nc ns : Nat) (hw : wj_X6_start_20  post postx  h kc ks) (hI : x_I G (x_A h0 s.heap.size) s.heap h H locs) (hkc : nc + kc ≤ mc) (hks : ns + ks ≤ ms) (hl : lv_has ls 1 []) : W p l e (rX6_start mc ms) s m args below meth c H locs nc ns (vx_MQ below (x_Qv G h0 s.heap.size post) (x_X G h0 s.heap.size postx) args s mc ms (x_A h0 s.heap.size)) (F0 m 20 ls []) := by
  obtain ⟨⟨hx, hb, hr, hml, hown, hg, hlocks, hK⟩, hno, hZ, hst⟩ := id C
  unfold wj_X6_start_20 at hw
  obtain ⟨hkc1, hks1, hw⟩ := hw
  exact x_thr hx hb hst hown (by decide +kernel) (hg _ (at_links _ (by decide +kernel))) (hg _ (at_links _ (by decide +kernel))) (x_at hg hZ.2.2 at_75a at_75b) at_75c hZ hI (by rw [hml]; exact hl.1) dX6_start_20 dX6_start_23 dX6_start_24 dX6_start_27 hno (Nat.le_of_ble_eq_true rfl) (Nat.le_of_ble_eq_true rfl) (show nc + 1 ≤ mc by omega) (show ns + 6 ≤ ms by omega) hlocks hw (show nc + 1 ≤ mc by omega) (show ns + 6 ≤ ms by omega)
set_option maxHeartbeats 4000000 in
set_option maxRecDepth 100000 in
theorem m_X6_start (l : Launch) (hst : l.stackTraces = false) (G : xG) (h0 : xH) (mc ms : Nat) (x0 : Nat) (post : xH → Prop) (postx : String → xH → Prop) (hw : wp_X6_start h0 mc ms x0 post postx) (sz : Nat) : vx_Met l yX6_start (wu yX6_start cX6_start 1 none) (rX6_start mc ms) (x_Px G [.ref x0] h0 sz) (x_Qv G h0 sz post) (x_X G h0 sz postx) mc ms (x_A h0 sz) := by
  refine vx_ofW (cc := cX6_start) (maxL := 1) (ret := none) (by decide) rfl ?_
  intro p e s m args below meth c s₁ B hml hno hv
  obtain ⟨rfl, hsz, hR, hK, hZ⟩ := hv
  subst hsz
  have C : CXT p l s m _ meth c G RX6 cX6_start 1 none h0 := ⟨⟨B.exec, B.bytes, B.returns, hml, findClass_of_methodNamed B.named, x_hg (atoms_spec (ws := wu yX6_start cX6_start 1 none) B.pre), B.notSynchronized, hK⟩, hno, hZ, hst⟩
  obtain ⟨⟨hx, hb, hr, hml, hown, hg, hlocks, hK⟩, hno, hZ, hst⟩ := id C
  have hI : x_I G (x_A h0 s.heap.size) s.heap h0 s.heap [] := x_I.start hR
  have hkc : 0 + mc ≤ mc := by omega
  have hks : 0 + ms ≤ ms := by omega
  have hl := lv_entry ([.ref x0]) (n := 1) (Nat.le_of_ble_eq_true rfl)
  rw [lg_entry_eq]
  generalize (lg_sl ([.ref x0]) ++ List.replicate (1 - (lg_sl ([.ref x0])).length) Slot.unset).toArray = ls at hl ⊢
  have hl : lv_has ls 1 [(0, .ref x0)] := hl
  unfold wp_X6_start at hw
  refine lv_aload_n hx hb dX6_start_0 rfl (lv_at hl 0 rfl) ?_
  obtain ⟨fs_1, he_1, hw⟩ := hw
  obtain ⟨v_1, hv_1, hw⟩ := hw
  refine x_get (ci := 6) (C := RX6) (T := TX6) (N := 10) hx hb hg ku_X6 hown hK hI he_1 rfl 0 (by decide) (hg _ kf_X6_12) (fun _ h9 => h9) hv_1 dX6_start_1 ?_
  refine lv_iconst (v := 1) hx hb dX6_start_4 (by decide) ?_
  obtain ⟨fs_5, he_5, hw⟩ := hw
  refine x_ci (va_runV (As := [.int 1]) (rest := []) ⟨hx, hb, hml, hown, hg⟩ (m_X1_isFit l G h0  v_1 1 _ hw s.heap.size) (cwV 1 hg (x_gV km_X6_66 ki_X1_isFit kz_X1_X1_isFit kn_X1 kk_X1_isFit) rfl rfl rfl (by decide +kernel) ⟨Nat.le_of_ble_eq_true rfl, Nat.le_of_ble_eq_true rfl⟩) ⟨x_blind, x_recv hI hK he_5 rfl rfl, x_pre hI hK⟩ rfl rfl hl.1 rfl (lv_room (Nat.le_of_ble_eq_true rfl)) dX6_start_5 ⟨show 0 + 0 ≤ mc by omega, show 0 + 0 ≤ ms by omega⟩) hI (fun r_5 h_5 H locs hw hI => ?_)
  obtain ⟨eh_5, hw⟩ := hw
  rw [eh_5] at hI
  refine lv_if_eq (tgt := 20) hx hb dX6_start_8 (by decide) (fun hc8 => ?_) (fun hc8 => ?_)
  · have hw := hw.1 hc8
    exact mj_X6_start_20 C mc ms post postx  _ _ _ _ _ _ _ _ hw hI (by omega) (by omega) (lv_sub hl [] rfl)
  · have hw := hw.2 hc8
    refine lv_aload_n hx hb dX6_start_11 rfl (lv_at hl 0 rfl) ?_
    obtain ⟨v_12, hv_12, hw⟩ := hw
    refine x_get (ci := 6) (C := RX6) (T := TX6) (N := 10) hx hb hg ku_X6 hown hK hI he_1 rfl 1 (by decide) (hg _ kf_X6_70) (fun _ h9 => h9) hv_12 dX6_start_12 ?_
    refine lv_bipush (v := 24) hx hb dX6_start_15 (by decide) ?_
    refine lv_icmp_lt (tgt := 28) hx hb dX6_start_17 (by decide) (fun hc17 => ?_) (fun hc17 => ?_)
    · have hw := hw.1 hc17
      refine lv_aload_n hx hb dX6_start_28 rfl (lv_at hl 0 rfl) ?_
      refine lv_aload_n hx hb dX6_start_29 rfl (lv_at hl 0 rfl) ?_
      refine x_get (ci := 6) (C := RX6) (T := TX6) (N := 10) hx hb hg ku_X6 hown hK hI he_1 rfl 0 (by decide) (hg _ kf_X6_12) (fun _ h9 => h9) hv_1 dX6_start_30 ?_
      refine lv_iconst (v := 0) hx hb dX6_start_33 (by decide) ?_
      obtain ⟨mc_34, ms_34, hkc1, hks1, hw⟩ := hw
      refine x_cr (va_runV (As := [.int 0]) (rest := [.ref x0]) ⟨hx, hb, hml, hown, hg⟩ (m_X1_table l G h0 mc_34 ms_34 v_1 0 _ hw H.size) (cwV 1 hg (x_gV km_X6_76 ki_X1_table kz_X1_X1_table kn_X1 kk_X1_table) rfl rfl rfl (by decide +kernel) ⟨Nat.le_of_ble_eq_true rfl, Nat.le_of_ble_eq_true rfl⟩) ⟨x_blind, x_recv hI hK he_5 rfl rfl, x_pre hI hK⟩ rfl rfl hl.1 rfl (lv_room (Nat.le_of_ble_eq_true rfl)) dX6_start_34 ⟨show 0 + 0 + mc_34 ≤ mc by omega, show 0 + 0 + ms_34 ≤ ms by omega⟩) hI (fun r_34 h_34 H locs hw hI => ?_)
      obtain ⟨fs_37, he_37, hw⟩ := hw
      obtain ⟨hlen37, hw⟩ := hw
      refine x_put (ci := 6) (v := .ref r_34) (ty := .object "ExactFilter$Table") (C := RX6) (T := TX6) (N := 10) hx hb hg ku_X6 tyX6 tyX6_ok nmX6 hown hK hI he_37 rfl 5 (by decide) (hg _ kf_X6_24) (fun _ h9 => h9) rfl (by decide +kernel) rfl rfl hlen37 dX6_start_37 (fun H locs hI => ?_)
      have hI : x_I G (x_A h0 s.heap.size) s.heap (x_up h_34 x0 (.inr (6, (fs_37 : List Value).set 5 (.ref r_34)))) H locs := hI
      obtain ⟨h_37, eh_37⟩ : ∃ z : xH, z = x_up h_34 x0 (.inr (6, (fs_37 : List Value).set 5 (.ref r_34))) := ⟨_, rfl⟩
      rw [← eh_37] at hI
      have hw := hw h_37 eh_37
      have heh_37 : h_37 x0 = some (.inr (6, (fs_37 : List Value).set 5 (.ref r_34))) := by rw [eh_37]; exact x_up_s
      refine lv_aload_n hx hb dX6_start_40 rfl (lv_at hl 0 rfl) ?_
      refine lv_aload_n hx hb dX6_start_41 rfl (lv_at hl 0 rfl) ?_
      obtain ⟨v_42, hv_42, hw⟩ := hw
      refine x_get (ci := 6) (C := RX6) (T := TX6) (N := 10) hx hb hg ku_X6 hown hK hI heh_37 rfl 0 (by decide) (hg _ kf_X6_12) (fun _ h9 => h9) hv_42 dX6_start_42 ?_
      refine lv_iconst (v := 1) hx hb dX6_start_45 (by decide) ?_
      obtain ⟨fs_46, he_46, hw⟩ := hw
      obtain ⟨mc_46, ms_46, hkc1, hks1, hw⟩ := hw
      refine x_cr (va_runV (As := [.int 1]) (rest := [.ref x0]) ⟨hx, hb, hml, hown, hg⟩ (m_X1_table l G h_37 mc_46 ms_46 v_42 1 _ hw H.size) (cwV 1 hg (x_gV km_X6_76 ki_X1_table kz_X1_X1_table kn_X1 kk_X1_table) rfl rfl rfl (by decide +kernel) ⟨Nat.le_of_ble_eq_true rfl, Nat.le_of_ble_eq_true rfl⟩) ⟨x_blind, x_recv hI hK he_46 rfl rfl, x_pre hI hK⟩ rfl rfl hl.1 rfl (lv_room (Nat.le_of_ble_eq_true rfl)) dX6_start_46 ⟨show 0 + 0 + mc_34 + mc_46 ≤ mc by omega, show 0 + 0 + ms_34 + ms_46 ≤ ms by omega⟩) hI (fun r_46 h_46 H locs hw hI => ?_)
      obtain ⟨fs_49, he_49, hw⟩ := hw
      obtain ⟨hlen49, hw⟩ := hw
      refine x_put (ci := 6) (v := .ref r_46) (ty := .object "ExactFilter$Table") (C := RX6) (T := TX6) (N := 10) hx hb hg ku_X6 tyX6 tyX6_ok nmX6 hown hK hI he_49 rfl 6 (by decide) (hg _ kf_X6_28) (fun _ h9 => h9) rfl (by decide +kernel) rfl rfl hlen49 dX6_start_49 (fun H locs hI => ?_)
      have hI : x_I G (x_A h0 s.heap.size) s.heap (x_up h_46 x0 (.inr (6, (fs_49 : List Value).set 6 (.ref r_46)))) H locs := hI
      obtain ⟨h_49, eh_49⟩ : ∃ z : xH, z = x_up h_46 x0 (.inr (6, (fs_49 : List Value).set 6 (.ref r_46))) := ⟨_, rfl⟩
      rw [← eh_49] at hI
      have hw := hw h_49 eh_49
      have heh_49 : h_49 x0 = some (.inr (6, (fs_49 : List Value).set 6 (.ref r_46))) := by rw [eh_49]; exact x_up_s
      refine lv_aload_n hx hb dX6_start_52 rfl (lv_at hl 0 rfl) ?_
      refine lv_dup hx hb dX6_start_53 rfl ?_
      obtain ⟨v_54, hv_54, hw⟩ := hw
      refine x_get (ci := 6) (C := RX6) (T := TX6) (N := 10) hx hb hg ku_X6 hown hK hI heh_49 rfl 1 (by decide) (hg _ kf_X6_70) (fun _ h9 => h9) hv_54 dX6_start_54 ?_
      refine lv_iconst (v := 1) hx hb dX6_start_57 (by decide) ?_
      refine lv_iadd hx hb dX6_start_58 ?_
      obtain ⟨hlen59, hw⟩ := hw
      refine x_put (ci := 6) (v := .int (v_54 + 1)) (ty := .int) (C := RX6) (T := TX6) (N := 10) hx hb hg ku_X6 tyX6 tyX6_ok nmX6 hown hK hI heh_49 rfl 1 (by decide) (hg _ kf_X6_70) (fun _ h9 => h9) rfl (by decide +kernel) rfl rfl hlen59 dX6_start_59 (fun H locs hI => ?_)
      have hI : x_I G (x_A h0 s.heap.size) s.heap (x_up h_49 x0 (.inr (6, ((fs_49 : List Value).set 6 (.ref r_46) : List Value).set 1 (.int (v_54 + 1))))) H locs := hI
      obtain ⟨h_59, eh_59⟩ : ∃ z : xH, z = x_up h_49 x0 (.inr (6, ((fs_49 : List Value).set 6 (.ref r_46) : List Value).set 1 (.int (v_54 + 1)))) := ⟨_, rfl⟩
      rw [← eh_59] at hI
      have hw := hw h_59 eh_59
      have heh_59 : h_59 x0 = some (.inr (6, ((fs_49 : List Value).set 6 (.ref r_46) : List Value).set 1 (.int (v_54 + 1)))) := by rw [eh_59]; exact x_up_s
      refine lv_aload_n hx hb dX6_start_62 rfl (lv_at hl 0 rfl) ?_
      refine lv_iconst (v := 1) hx hb dX6_start_63 (by decide) ?_
      obtain ⟨hlen64, hw⟩ := hw
      refine x_put (ci := 6) (v := .int 1) (ty := .boolean) (C := RX6) (T := TX6) (N := 10) hx hb hg ku_X6 tyX6 tyX6_ok nmX6 hown hK hI heh_59 rfl 2 (by decide) (hg _ kf_X6_43) (fun _ h9 => h9) rfl (by decide +kernel) rfl rfl hlen64 dX6_start_64 (fun H locs hI => ?_)
      have hI : x_I G (x_A h0 s.heap.size) s.heap (x_up h_59 x0 (.inr (6, (((fs_49 : List Value).set 6 (.ref r_46) : List Value).set 1 (.int (v_54 + 1)) : List Value).set 2 (.int 1)))) H locs := hI
      obtain ⟨h_64, eh_64⟩ : ∃ z : xH, z = x_up h_59 x0 (.inr (6, (((fs_49 : List Value).set 6 (.ref r_46) : List Value).set 1 (.int (v_54 + 1)) : List Value).set 2 (.int 1))) := ⟨_, rfl⟩
      rw [← eh_64] at hI
      have hw := hw h_64 eh_64
      have heh_64 : h_64 x0 = some (.inr (6, (((fs_49 : List Value).set 6 (.ref r_46) : List Value).set 1 (.int (v_54 + 1)) : List Value).set 2 (.int 1))) := by rw [eh_64]; exact x_up_s
      refine lv_aload_n hx hb dX6_start_67 rfl (lv_at hl 0 rfl) ?_
      refine lv_iconst (v := 0) hx hb dX6_start_68 (by decide) ?_
      obtain ⟨hlen69, hw⟩ := hw
      refine x_put (ci := 6) (v := .int 0) (ty := .int) (C := RX6) (T := TX6) (N := 10) hx hb hg ku_X6 tyX6 tyX6_ok nmX6 hown hK hI heh_64 rfl 3 (by decide) (hg _ kf_X6_47) (fun _ h9 => h9) rfl (by decide +kernel) rfl rfl hlen69 dX6_start_69 (fun H locs hI => ?_)
      have hI : x_I G (x_A h0 s.heap.size) s.heap (x_up h_64 x0 (.inr (6, ((((fs_49 : List Value).set 6 (.ref r_46) : List Value).set 1 (.int (v_54 + 1)) : List Value).set 2 (.int 1) : List Value).set 3 (.int 0)))) H locs := hI
      obtain ⟨h_69, eh_69⟩ : ∃ z : xH, z = x_up h_64 x0 (.inr (6, ((((fs_49 : List Value).set 6 (.ref r_46) : List Value).set 1 (.int (v_54 + 1)) : List Value).set 2 (.int 1) : List Value).set 3 (.int 0))) := ⟨_, rfl⟩
      rw [← eh_69] at hI
      have hw := hw h_69 eh_69
      have heh_69 : h_69 x0 = some (.inr (6, ((((fs_49 : List Value).set 6 (.ref r_46) : List Value).set 1 (.int (v_54 + 1)) : List Value).set 2 (.int 1) : List Value).set 3 (.int 0))) := by rw [eh_69]; exact x_up_s
      refine lv_aload_n hx hb dX6_start_72 rfl (lv_at hl 0 rfl) ?_
      refine lv_iconst (v := 0) hx hb dX6_start_73 (by decide) ?_
      obtain ⟨hlen74, hw⟩ := hw
      refine x_put (ci := 6) (v := .int 0) (ty := .int) (C := RX6) (T := TX6) (N := 10) hx hb hg ku_X6 tyX6 tyX6_ok nmX6 hown hK hI heh_69 rfl 4 (by decide) (hg _ kf_X6_51) (fun _ h9 => h9) rfl (by decide +kernel) rfl rfl hlen74 dX6_start_74 (fun H locs hI => ?_)
      have hI : x_I G (x_A h0 s.heap.size) s.heap (x_up h_69 x0 (.inr (6, (((((fs_49 : List Value).set 6 (.ref r_46) : List Value).set 1 (.int (v_54 + 1)) : List Value).set 2 (.int 1) : List Value).set 3 (.int 0) : List Value).set 4 (.int 0)))) H locs := hI
      obtain ⟨h_74, eh_74⟩ : ∃ z : xH, z = x_up h_69 x0 (.inr (6, (((((fs_49 : List Value).set 6 (.ref r_46) : List Value).set 1 (.int (v_54 + 1)) : List Value).set 2 (.int 1) : List Value).set 3 (.int 0) : List Value).set 4 (.int 0))) := ⟨_, rfl⟩
      rw [← eh_74] at hI
      have hw := hw h_74 eh_74
      have heh_74 : h_74 x0 = some (.inr (6, (((((fs_49 : List Value).set 6 (.ref r_46) : List Value).set 1 (.int (v_54 + 1)) : List Value).set 2 (.int 1) : List Value).set 3 (.int 0) : List Value).set 4 (.int 0))) := by rw [eh_74]; exact x_up_s
      exact vx_ret (x_vret hx hb hr hlocks hI hw (by omega) (by omega) dX6_start_77)
    · have hw := hw.2 hc17
      exact mj_X6_start_20 C mc ms post postx  _ _ _ _ _ _ _ _ hw hI (by omega) (by omega) (lv_sub hl [] rfl)
-- ===== ExactFilter.predict
abbrev rX6_predict (mc ms : Nat) : Room := { frames := 7, cells := mc, slots := ms, locals := 175 }
set_option maxRecDepth 100000 in
def wj_X6_predict_26  (post : Int32 → xH → Prop) (postx : String → xH → Prop)  (h : xH) (kc : Nat) (ks : Nat) : Prop := 1 ≤ kc ∧ 6 ≤ ks ∧ postx EIS h
set_option maxRecDepth 100000 in
def wp_X6_predict (h0 : xH) (mc ms : Nat) (x0 : Nat) (post : Int32 → xH → Prop) (postx : String → xH → Prop) : Prop := ∃ fs_1 : List Value, h0 x0 = some (.inr (6, fs_1)) ∧ ∃ v_1 : Int32, fs_1[2]? = some (.int v_1) ∧ (v_1 = 0 → wj_X6_predict_26  post postx  h0 mc ms) ∧ (¬ v_1 = 0 → ∃ v_8 : Nat, fs_1[0]? = some (.ref v_8) ∧ ∃ fs_12 : List Value, h0 v_8 = some (.inr (1, fs_12)) ∧ wp_X1_isFit h0  v_8 4 (fun (r_12 : Int32) => (r_12 = 0 → wj_X6_predict_26  post postx  h0 mc ms) ∧ (¬ r_12 = 0 → ∃ v_19 : Int32, fs_1[3]? = some (.int v_19) ∧ (v_19 < 4 → ∃ mc_39 ms_39 : Nat, mc_39 ≤ mc ∧ ms_39 ≤ ms ∧ wp_X1_table h0 mc_39 ms_39 v_8 2 (fun (r_39 : Nat) (h_39 : xH) => ∃ fs_46 : List Value, h_39 x0 = some (.inr (6, fs_46)) ∧ ∃ v_46 : Nat, fs_46[5]? = some (.ref v_46) ∧ ∃ fs_49 : List Value, h_39 r_39 = some (.inr (4, fs_49)) ∧ ∃ mc_49 ms_49 : Nat, mc_49 ≤ (mc - mc_39) ∧ ms_49 ≤ (ms - ms_39) ∧ wp_X4_times h_39 mc_49 ms_49 r_39 v_46 (fun (r_49 : Nat) (h_49 : xH) => ∃ fs_53 : List Value, h_49 x0 = some (.inr (6, fs_53)) ∧ ∃ v_53 : Nat, fs_53[0]? = some (.ref v_53) ∧ ∃ fs_57 : List Value, h_49 v_53 = some (.inr (1, fs_57)) ∧ ∃ mc_57 ms_57 : Nat, mc_57 ≤ ((mc - mc_39) - mc_49) ∧ ms_57 ≤ ((ms - ms_39) - ms_49) ∧ wp_X1_table h_49 mc_57 ms_57 v_53 3 (fun (r_57 : Nat) (h_57 : xH) => ∃ fs_60 : List Value, h_57 r_49 = some (.inr (4, fs_60)) ∧ ∃ mc_60 ms_60 : Nat, mc_60 ≤ (((mc - mc_39) - mc_49) - mc_57) ∧ ms_60 ≤ (((ms - ms_39) - ms_49) - ms_57) ∧ wp_X4_plus h_57 mc_60 ms_60 r_49 r_57 (fun (r_60 : Nat) (h_60 : xH) => ∃ fs_63 : List Value, h_60 x0 = some (.inr (6, fs_63)) ∧ 5 < (fs_63 : List Value).length ∧ ∀ h_63 : xH, h_63 = x_up h_60 x0 (.inr (6, (fs_63 : List Value).set 5 (.ref r_60))) → ∃ v_69 : Nat, ((fs_63 : List Value).set 5 (.ref r_60) : List Value)[6]? = some (.ref v_69) ∧ ∃ fs_72 : List Value, h_63 r_39 = some (.inr (4, fs_72)) ∧ ∃ mc_72 ms_72 : Nat, mc_72 ≤ ((((mc - mc_39) - mc_49) - mc_57) - mc_60) ∧ ms_72 ≤ ((((ms - ms_39) - ms_49) - ms_57) - ms_60) ∧ wp_X4_times h_63 mc_72 ms_72 r_39 v_69 (fun (r_72 : Nat) (h_72 : xH) => ∃ fs_76 : List Value, h_72 r_39 = some (.inr (4, fs_76)) ∧ ∃ mc_76 ms_76 : Nat, mc_76 ≤ (((((mc - mc_39) - mc_49) - mc_57) - mc_60) - mc_72) ∧ ms_76 ≤ (((((ms - ms_39) - ms_49) - ms_57) - ms_60) - ms_72) ∧ wp_X4_turned h_72 mc_76 ms_76 r_39 (fun (r_76 : Nat) (h_76 : xH) => ∃ fs_79 : List Value, h_76 r_72 = some (.inr (4, fs_79)) ∧ ∃ mc_79 ms_79 : Nat, mc_79 ≤ ((((((mc - mc_39) - mc_49) - mc_57) - mc_60) - mc_72) - mc_76) ∧ ms_79 ≤ ((((((ms - ms_39) - ms_49) - ms_57) - ms_60) - ms_72) - ms_76) ∧ wp_X4_times h_76 mc_79 ms_79 r_72 r_76 (fun (r_79 : Nat) (h_79 : xH) => ∃ fs_83 : List Value, h_79 x0 = some (.inr (6, fs_83)) ∧ ∃ v_83 : Nat, fs_83[0]? = some (.ref v_83) ∧ ∃ fs_87 : List Value, h_79 v_83 = some (.inr (1, fs_87)) ∧ ∃ mc_87 ms_87 : Nat, mc_87 ≤ (((((((mc - mc_39) - mc_49) - mc_57) - mc_60) - mc_72) - mc_76) - mc_79) ∧ ms_87 ≤ (((((((ms - ms_39) - ms_49) - ms_57) - ms_60) - ms_72) - ms_76) - ms_79) ∧ wp_X1_table h_79 mc_87 ms_87 v_83 4 (fun (r_87 : Nat) (h_87 : xH) => ∃ fs_90 : List Value, h_87 r_79 = some (.inr (4, fs_90)) ∧ ∃ mc_90 ms_90 : Nat, mc_90 ≤ ((((((((mc - mc_39) - mc_49) - mc_57) - mc_60) - mc_72) - mc_76) - mc_79) - mc_87) ∧ ms_90 ≤ ((((((((ms - ms_39) - ms_49) - ms_57) - ms_60) - ms_72) - ms_76) - ms_79) - ms_87) ∧ wp_X4_plus h_87 mc_90 ms_90 r_79 r_87 (fun (r_90 : Nat) (h_90 : xH) => ∃ fs_93 : List Value, h_90 x0 = some (.inr (6, fs_93)) ∧ 6 < (fs_93 : List Value).length ∧ ∀ h_93 : xH, h_93 = x_up h_90 x0 (.inr (6, (fs_93 : List Value).set 6 (.ref r_90))) → ∃ v_98 : Int32, ((fs_93 : List Value).set 6 (.ref r_90) : List Value)[3]? = some (.int v_98) ∧ 3 < ((fs_93 : List Value).set 6 (.ref r_90) : List Value).length ∧ ∀ h_103 : xH, h_103 = x_up h_93 x0 (.inr (6, ((fs_93 : List Value).set 6 (.ref r_90) : List Value).set 3 (.int (v_98 + 1)))) → ∃ v_107 : Int32, (((fs_93 : List Value).set 6 (.ref r_90) : List Value).set 3 (.int (v_98 + 1)) : List Value)[3]? = some (.int v_107) ∧ post v_107 h_103)))))))))) ∧ (¬ v_19 < 4 → wj_X6_predict_26  post postx  h0 mc ms))))
set_option maxHeartbeats 4000000 in
set_option maxRecDepth 100000 in
theorem mj_X6_predict_26 {h0 : xH} (C : CXT p l s m args meth c G RX6 cX6_predict 2 (some .int) h0) (mc ms : Nat) (post : Int32 → xH → Prop) (postx : String → xH → Prop) 
    
    (h : xH) (kc : Nat) (ks : Nat) (H : Heap) (locs : List Loc) (ls : Array Slot) (nc ns : Nat) (hw : wj_X6_predict_26  post postx  h kc ks) (hI : x_I G (x_A h0 s.heap.size) s.heap h H locs) (hkc : nc + kc ≤ mc) (hks : ns + ks ≤ ms) (hl : lv_has ls 2 []) : W p l e (rX6_predict mc ms) s m args below meth c H locs nc ns (vx_MQ below (x_Qi G h0 s.heap.size post) (x_X G h0 s.heap.size postx) args s mc ms (x_A h0 s.heap.size)) (F0 m 26 ls []) := by
  obtain ⟨⟨hx, hb, hr, hml, hown, hg, hlocks, hK⟩, hno, hZ, hst⟩ := id C
  unfold wj_X6_predict_26 at hw
  obtain ⟨hkc1, hks1, hw⟩ := hw
  exact x_thr hx hb hst hown (by decide +kernel) (hg _ (at_links _ (by decide +kernel))) (hg _ (at_links _ (by decide +kernel))) (x_at hg hZ.2.2 at_75a at_75b) at_75c hZ hI (by rw [hml]; exact hl.1) dX6_predict_26 dX6_predict_29 dX6_predict_30 dX6_predict_33 hno (Nat.le_of_ble_eq_true rfl) (Nat.le_of_ble_eq_true rfl) (show nc + 1 ≤ mc by omega) (show ns + 6 ≤ ms by omega) hlocks hw (show nc + 1 ≤ mc by omega) (show ns + 6 ≤ ms by omega)
set_option maxHeartbeats 4000000 in
set_option maxRecDepth 100000 in
theorem m_X6_predict (l : Launch) (hst : l.stackTraces = false) (G : xG) (h0 : xH) (mc ms : Nat) (x0 : Nat) (post : Int32 → xH → Prop) (postx : String → xH → Prop) (hw : wp_X6_predict h0 mc ms x0 post postx) (sz : Nat) : vx_Met l yX6_predict (wu yX6_predict cX6_predict 2 (some .int)) (rX6_predict mc ms) (x_Px G [.ref x0] h0 sz) (x_Qi G h0 sz post) (x_X G h0 sz postx) mc ms (x_A h0 sz) := by
  refine vx_ofW (cc := cX6_predict) (maxL := 2) (ret := (some .int)) (by decide) rfl ?_
  intro p e s m args below meth c s₁ B hml hno hv
  obtain ⟨rfl, hsz, hR, hK, hZ⟩ := hv
  subst hsz
  have C : CXT p l s m _ meth c G RX6 cX6_predict 2 (some .int) h0 := ⟨⟨B.exec, B.bytes, B.returns, hml, findClass_of_methodNamed B.named, x_hg (atoms_spec (ws := wu yX6_predict cX6_predict 2 (some .int)) B.pre), B.notSynchronized, hK⟩, hno, hZ, hst⟩
  obtain ⟨⟨hx, hb, hr, hml, hown, hg, hlocks, hK⟩, hno, hZ, hst⟩ := id C
  have hI : x_I G (x_A h0 s.heap.size) s.heap h0 s.heap [] := x_I.start hR
  have hkc : 0 + mc ≤ mc := by omega
  have hks : 0 + ms ≤ ms := by omega
  have hl := lv_entry ([.ref x0]) (n := 2) (Nat.le_of_ble_eq_true rfl)
  rw [lg_entry_eq]
  generalize (lg_sl ([.ref x0]) ++ List.replicate (2 - (lg_sl ([.ref x0])).length) Slot.unset).toArray = ls at hl ⊢
  have hl : lv_has ls 2 [(0, .ref x0)] := hl
  unfold wp_X6_predict at hw
  refine lv_aload_n hx hb dX6_predict_0 rfl (lv_at hl 0 rfl) ?_
  obtain ⟨fs_1, he_1, hw⟩ := hw
  obtain ⟨v_1, hv_1, hw⟩ := hw
  refine x_get (ci := 6) (C := RX6) (T := TX6) (N := 10) hx hb hg ku_X6 hown hK hI he_1 rfl 2 (by decide) (hg _ kf_X6_43) (fun _ h9 => h9) hv_1 dX6_predict_1 ?_
  refine lv_if_eq (tgt := 26) hx hb dX6_predict_4 (by decide) (fun hc4 => ?_) (fun hc4 => ?_)
  · have hw := hw.1 hc4
    exact mj_X6_predict_26 C mc ms post postx  _ _ _ _ _ _ _ _ hw hI (by omega) (by omega) (lv_sub hl [] rfl)
  · have hw := hw.2 hc4
    refine lv_aload_n hx hb dX6_predict_7 rfl (lv_at hl 0 rfl) ?_
    obtain ⟨v_8, hv_8, hw⟩ := hw
    refine x_get (ci := 6) (C := RX6) (T := TX6) (N := 10) hx hb hg ku_X6 hown hK hI he_1 rfl 0 (by decide) (hg _ kf_X6_12) (fun _ h9 => h9) hv_8 dX6_predict_8 ?_
    refine lv_iconst (v := 4) hx hb dX6_predict_11 (by decide) ?_
    obtain ⟨fs_12, he_12, hw⟩ := hw
    refine x_ci (va_runV (As := [.int 4]) (rest := []) ⟨hx, hb, hml, hown, hg⟩ (m_X1_isFit l G h0  v_8 4 _ hw s.heap.size) (cwV 1 hg (x_gV km_X6_66 ki_X1_isFit kz_X1_X1_isFit kn_X1 kk_X1_isFit) rfl rfl rfl (by decide +kernel) ⟨Nat.le_of_ble_eq_true rfl, Nat.le_of_ble_eq_true rfl⟩) ⟨x_blind, x_recv hI hK he_12 rfl rfl, x_pre hI hK⟩ rfl rfl hl.1 rfl (lv_room (Nat.le_of_ble_eq_true rfl)) dX6_predict_12 ⟨show 0 + 0 ≤ mc by omega, show 0 + 0 ≤ ms by omega⟩) hI (fun r_12 h_12 H locs hw hI => ?_)
    obtain ⟨eh_12, hw⟩ := hw
    rw [eh_12] at hI
    refine lv_if_eq (tgt := 26) hx hb dX6_predict_15 (by decide) (fun hc15 => ?_) (fun hc15 => ?_)
    · have hw := hw.1 hc15
      exact mj_X6_predict_26 C mc ms post postx  _ _ _ _ _ _ _ _ hw hI (by omega) (by omega) (lv_sub hl [] rfl)
    · have hw := hw.2 hc15
      refine lv_aload_n hx hb dX6_predict_18 rfl (lv_at hl 0 rfl) ?_
      obtain ⟨v_19, hv_19, hw⟩ := hw
      refine x_get (ci := 6) (C := RX6) (T := TX6) (N := 10) hx hb hg ku_X6 hown hK hI he_1 rfl 3 (by decide) (hg _ kf_X6_47) (fun _ h9 => h9) hv_19 dX6_predict_19 ?_
      refine lv_iconst (v := 4) hx hb dX6_predict_22 (by decide) ?_
      refine lv_icmp_lt (tgt := 34) hx hb dX6_predict_23 (by decide) (fun hc23 => ?_) (fun hc23 => ?_)
      · have hw := hw.1 hc23
        refine lv_aload_n hx hb dX6_predict_34 rfl (lv_at hl 0 rfl) ?_
        refine x_get (ci := 6) (C := RX6) (T := TX6) (N := 10) hx hb hg ku_X6 hown hK hI he_1 rfl 0 (by decide) (hg _ kf_X6_12) (fun _ h9 => h9) hv_8 dX6_predict_35 ?_
        refine lv_iconst (v := 2) hx hb dX6_predict_38 (by decide) ?_
        obtain ⟨mc_39, ms_39, hkc1, hks1, hw⟩ := hw
        refine x_cr (va_runV (As := [.int 2]) (rest := []) ⟨hx, hb, hml, hown, hg⟩ (m_X1_table l G h0 mc_39 ms_39 v_8 2 _ hw H.size) (cwV 1 hg (x_gV km_X6_76 ki_X1_table kz_X1_X1_table kn_X1 kk_X1_table) rfl rfl rfl (by decide +kernel) ⟨Nat.le_of_ble_eq_true rfl, Nat.le_of_ble_eq_true rfl⟩) ⟨x_blind, x_recv hI hK he_12 rfl rfl, x_pre hI hK⟩ rfl rfl hl.1 rfl (lv_room (Nat.le_of_ble_eq_true rfl)) dX6_predict_39 ⟨show 0 + 0 + mc_39 ≤ mc by omega, show 0 + 0 + ms_39 ≤ ms by omega⟩) hI (fun r_39 h_39 H locs hw hI => ?_)
        refine lv_astore_n (lv' := [(1, .ref r_39), (0, .ref x0)]) hx hb dX6_predict_42 rfl hl (by decide) rfl (fun ls hl => ?_)
        refine lv_aload_n hx hb dX6_predict_43 rfl (lv_at hl 1 rfl) ?_
        refine lv_aload_n hx hb dX6_predict_44 rfl (lv_at hl 0 rfl) ?_
        refine lv_aload_n hx hb dX6_predict_45 rfl (lv_at hl 1 rfl) ?_
        obtain ⟨fs_46, he_46, hw⟩ := hw
        obtain ⟨v_46, hv_46, hw⟩ := hw
        refine x_get (ci := 6) (C := RX6) (T := TX6) (N := 10) hx hb hg ku_X6 hown hK hI he_46 rfl 5 (by decide) (hg _ kf_X6_24) (fun _ h9 => h9) hv_46 dX6_predict_46 ?_
        obtain ⟨fs_49, he_49, hw⟩ := hw
        obtain ⟨mc_49, ms_49, hkc1, hks1, hw⟩ := hw
        refine x_cr (va_runV (As := [.ref v_46]) (rest := [.ref x0]) ⟨hx, hb, hml, hown, hg⟩ (m_X4_times l G h_39 mc_49 ms_49 r_39 v_46 _ hw H.size) (cwV 1 hg (x_gV km_X6_80 ki_X4_times kz_X4_X4_times kn_X4 kk_X4_times) rfl rfl rfl (by decide +kernel) ⟨Nat.le_of_ble_eq_true rfl, Nat.le_of_ble_eq_true rfl⟩) ⟨x_blind, x_recv hI hK he_49 rfl rfl, x_pre hI hK⟩ rfl rfl hl.1 rfl (lv_room (Nat.le_of_ble_eq_true rfl)) dX6_predict_49 ⟨show 0 + 0 + mc_39 + mc_49 ≤ mc by omega, show 0 + 0 + ms_39 + ms_49 ≤ ms by omega⟩) hI (fun r_49 h_49 H locs hw hI => ?_)
        refine lv_aload_n hx hb dX6_predict_52 rfl (lv_at hl 1 rfl) ?_
        obtain ⟨fs_53, he_53, hw⟩ := hw
        obtain ⟨v_53, hv_53, hw⟩ := hw
        refine x_get (ci := 6) (C := RX6) (T := TX6) (N := 10) hx hb hg ku_X6 hown hK hI he_53 rfl 0 (by decide) (hg _ kf_X6_12) (fun _ h9 => h9) hv_53 dX6_predict_53 ?_
        refine lv_iconst (v := 3) hx hb dX6_predict_56 (by decide) ?_
        obtain ⟨fs_57, he_57, hw⟩ := hw
        obtain ⟨mc_57, ms_57, hkc1, hks1, hw⟩ := hw
        refine x_cr (va_runV (As := [.int 3]) (rest := [.ref r_49, .ref x0]) ⟨hx, hb, hml, hown, hg⟩ (m_X1_table l G h_49 mc_57 ms_57 v_53 3 _ hw H.size) (cwV 1 hg (x_gV km_X6_76 ki_X1_table kz_X1_X1_table kn_X1 kk_X1_table) rfl rfl rfl (by decide +kernel) ⟨Nat.le_of_ble_eq_true rfl, Nat.le_of_ble_eq_true rfl⟩) ⟨x_blind, x_recv hI hK he_57 rfl rfl, x_pre hI hK⟩ rfl rfl hl.1 rfl (lv_room (Nat.le_of_ble_eq_true rfl)) dX6_predict_57 ⟨show 0 + 0 + mc_39 + mc_49 + mc_57 ≤ mc by omega, show 0 + 0 + ms_39 + ms_49 + ms_57 ≤ ms by omega⟩) hI (fun r_57 h_57 H locs hw hI => ?_)
        obtain ⟨fs_60, he_60, hw⟩ := hw
        obtain ⟨mc_60, ms_60, hkc1, hks1, hw⟩ := hw
        refine x_cr (va_runV (As := [.ref r_57]) (rest := [.ref x0]) ⟨hx, hb, hml, hown, hg⟩ (m_X4_plus l G h_57 mc_60 ms_60 r_49 r_57 _ hw H.size) (cwV 1 hg (x_gV km_X6_84 ki_X4_plus kz_X4_X4_plus kn_X4 kk_X4_plus) rfl rfl rfl (by decide +kernel) ⟨Nat.le_of_ble_eq_true rfl, Nat.le_of_ble_eq_true rfl⟩) ⟨x_blind, x_recv hI hK he_60 rfl rfl, x_pre hI hK⟩ rfl rfl hl.1 rfl (lv_room (Nat.le_of_ble_eq_true rfl)) dX6_predict_60 ⟨show 0 + 0 + mc_39 + mc_49 + mc_57 + mc_60 ≤ mc by omega, show 0 + 0 + ms_39 + ms_49 + ms_57 + ms_60 ≤ ms by omega⟩) hI (fun r_60 h_60 H locs hw hI => ?_)
        obtain ⟨fs_63, he_63, hw⟩ := hw
        obtain ⟨hlen63, hw⟩ := hw
        refine x_put (ci := 6) (v := .ref r_60) (ty := .object "ExactFilter$Table") (C := RX6) (T := TX6) (N := 10) hx hb hg ku_X6 tyX6 tyX6_ok nmX6 hown hK hI he_63 rfl 5 (by decide) (hg _ kf_X6_24) (fun _ h9 => h9) rfl (by decide +kernel) rfl rfl hlen63 dX6_predict_63 (fun H locs hI => ?_)
        have hI : x_I G (x_A h0 s.heap.size) s.heap (x_up h_60 x0 (.inr (6, (fs_63 : List Value).set 5 (.ref r_60)))) H locs := hI
        obtain ⟨h_63, eh_63⟩ : ∃ z : xH, z = x_up h_60 x0 (.inr (6, (fs_63 : List Value).set 5 (.ref r_60))) := ⟨_, rfl⟩
        rw [← eh_63] at hI
        have hw := hw h_63 eh_63
        have heh_63 : h_63 x0 = some (.inr (6, (fs_63 : List Value).set 5 (.ref r_60))) := by rw [eh_63]; exact x_up_s
        refine lv_aload_n hx hb dX6_predict_66 rfl (lv_at hl 1 rfl) ?_
        refine lv_aload_n hx hb dX6_predict_67 rfl (lv_at hl 0 rfl) ?_
        refine lv_aload_n hx hb dX6_predict_68 rfl (lv_at hl 1 rfl) ?_
        obtain ⟨v_69, hv_69, hw⟩ := hw
        refine x_get (ci := 6) (C := RX6) (T := TX6) (N := 10) hx hb hg ku_X6 hown hK hI heh_63 rfl 6 (by decide) (hg _ kf_X6_28) (fun _ h9 => h9) hv_69 dX6_predict_69 ?_
        obtain ⟨fs_72, he_72, hw⟩ := hw
        obtain ⟨mc_72, ms_72, hkc1, hks1, hw⟩ := hw
        refine x_cr (va_runV (As := [.ref v_69]) (rest := [.ref x0]) ⟨hx, hb, hml, hown, hg⟩ (m_X4_times l G h_63 mc_72 ms_72 r_39 v_69 _ hw H.size) (cwV 1 hg (x_gV km_X6_80 ki_X4_times kz_X4_X4_times kn_X4 kk_X4_times) rfl rfl rfl (by decide +kernel) ⟨Nat.le_of_ble_eq_true rfl, Nat.le_of_ble_eq_true rfl⟩) ⟨x_blind, x_recv hI hK he_72 rfl rfl, x_pre hI hK⟩ rfl rfl hl.1 rfl (lv_room (Nat.le_of_ble_eq_true rfl)) dX6_predict_72 ⟨show 0 + 0 + mc_39 + mc_49 + mc_57 + mc_60 + mc_72 ≤ mc by omega, show 0 + 0 + ms_39 + ms_49 + ms_57 + ms_60 + ms_72 ≤ ms by omega⟩) hI (fun r_72 h_72 H locs hw hI => ?_)
        refine lv_aload_n hx hb dX6_predict_75 rfl (lv_at hl 0 rfl) ?_
        obtain ⟨fs_76, he_76, hw⟩ := hw
        obtain ⟨mc_76, ms_76, hkc1, hks1, hw⟩ := hw
        refine x_cr (va_runV (As := []) (rest := [.ref r_72, .ref x0]) ⟨hx, hb, hml, hown, hg⟩ (m_X4_turned l G h_72 mc_76 ms_76 r_39 _ hw H.size) (cwV 0 hg (x_gV km_X6_87 ki_X4_turned kz_X4_X4_turned kn_X4 kk_X4_turned) rfl rfl rfl (by decide +kernel) ⟨Nat.le_of_ble_eq_true rfl, Nat.le_of_ble_eq_true rfl⟩) ⟨x_blind, x_recv hI hK he_76 rfl rfl, x_pre hI hK⟩ rfl rfl hl.1 rfl (lv_room (Nat.le_of_ble_eq_true rfl)) dX6_predict_76 ⟨show 0 + 0 + mc_39 + mc_49 + mc_57 + mc_60 + mc_72 + mc_76 ≤ mc by omega, show 0 + 0 + ms_39 + ms_49 + ms_57 + ms_60 + ms_72 + ms_76 ≤ ms by omega⟩) hI (fun r_76 h_76 H locs hw hI => ?_)
        obtain ⟨fs_79, he_79, hw⟩ := hw
        obtain ⟨mc_79, ms_79, hkc1, hks1, hw⟩ := hw
        refine x_cr (va_runV (As := [.ref r_76]) (rest := [.ref x0]) ⟨hx, hb, hml, hown, hg⟩ (m_X4_times l G h_76 mc_79 ms_79 r_72 r_76 _ hw H.size) (cwV 1 hg (x_gV km_X6_80 ki_X4_times kz_X4_X4_times kn_X4 kk_X4_times) rfl rfl rfl (by decide +kernel) ⟨Nat.le_of_ble_eq_true rfl, Nat.le_of_ble_eq_true rfl⟩) ⟨x_blind, x_recv hI hK he_79 rfl rfl, x_pre hI hK⟩ rfl rfl hl.1 rfl (lv_room (Nat.le_of_ble_eq_true rfl)) dX6_predict_79 ⟨show 0 + 0 + mc_39 + mc_49 + mc_57 + mc_60 + mc_72 + mc_76 + mc_79 ≤ mc by omega, show 0 + 0 + ms_39 + ms_49 + ms_57 + ms_60 + ms_72 + ms_76 + ms_79 ≤ ms by omega⟩) hI (fun r_79 h_79 H locs hw hI => ?_)
        refine lv_aload_n hx hb dX6_predict_82 rfl (lv_at hl 1 rfl) ?_
        obtain ⟨fs_83, he_83, hw⟩ := hw
        obtain ⟨v_83, hv_83, hw⟩ := hw
        refine x_get (ci := 6) (C := RX6) (T := TX6) (N := 10) hx hb hg ku_X6 hown hK hI he_83 rfl 0 (by decide) (hg _ kf_X6_12) (fun _ h9 => h9) hv_83 dX6_predict_83 ?_
        refine lv_iconst (v := 4) hx hb dX6_predict_86 (by decide) ?_
        obtain ⟨fs_87, he_87, hw⟩ := hw
        obtain ⟨mc_87, ms_87, hkc1, hks1, hw⟩ := hw
        refine x_cr (va_runV (As := [.int 4]) (rest := [.ref r_79, .ref x0]) ⟨hx, hb, hml, hown, hg⟩ (m_X1_table l G h_79 mc_87 ms_87 v_83 4 _ hw H.size) (cwV 1 hg (x_gV km_X6_76 ki_X1_table kz_X1_X1_table kn_X1 kk_X1_table) rfl rfl rfl (by decide +kernel) ⟨Nat.le_of_ble_eq_true rfl, Nat.le_of_ble_eq_true rfl⟩) ⟨x_blind, x_recv hI hK he_87 rfl rfl, x_pre hI hK⟩ rfl rfl hl.1 rfl (lv_room (Nat.le_of_ble_eq_true rfl)) dX6_predict_87 ⟨show 0 + 0 + mc_39 + mc_49 + mc_57 + mc_60 + mc_72 + mc_76 + mc_79 + mc_87 ≤ mc by omega, show 0 + 0 + ms_39 + ms_49 + ms_57 + ms_60 + ms_72 + ms_76 + ms_79 + ms_87 ≤ ms by omega⟩) hI (fun r_87 h_87 H locs hw hI => ?_)
        obtain ⟨fs_90, he_90, hw⟩ := hw
        obtain ⟨mc_90, ms_90, hkc1, hks1, hw⟩ := hw
        refine x_cr (va_runV (As := [.ref r_87]) (rest := [.ref x0]) ⟨hx, hb, hml, hown, hg⟩ (m_X4_plus l G h_87 mc_90 ms_90 r_79 r_87 _ hw H.size) (cwV 1 hg (x_gV km_X6_84 ki_X4_plus kz_X4_X4_plus kn_X4 kk_X4_plus) rfl rfl rfl (by decide +kernel) ⟨Nat.le_of_ble_eq_true rfl, Nat.le_of_ble_eq_true rfl⟩) ⟨x_blind, x_recv hI hK he_90 rfl rfl, x_pre hI hK⟩ rfl rfl hl.1 rfl (lv_room (Nat.le_of_ble_eq_true rfl)) dX6_predict_90 ⟨show 0 + 0 + mc_39 + mc_49 + mc_57 + mc_60 + mc_72 + mc_76 + mc_79 + mc_87 + mc_90 ≤ mc by omega, show 0 + 0 + ms_39 + ms_49 + ms_57 + ms_60 + ms_72 + ms_76 + ms_79 + ms_87 + ms_90 ≤ ms by omega⟩) hI (fun r_90 h_90 H locs hw hI => ?_)
        obtain ⟨fs_93, he_93, hw⟩ := hw
        obtain ⟨hlen93, hw⟩ := hw
        refine x_put (ci := 6) (v := .ref r_90) (ty := .object "ExactFilter$Table") (C := RX6) (T := TX6) (N := 10) hx hb hg ku_X6 tyX6 tyX6_ok nmX6 hown hK hI he_93 rfl 6 (by decide) (hg _ kf_X6_28) (fun _ h9 => h9) rfl (by decide +kernel) rfl rfl hlen93 dX6_predict_93 (fun H locs hI => ?_)
        have hI : x_I G (x_A h0 s.heap.size) s.heap (x_up h_90 x0 (.inr (6, (fs_93 : List Value).set 6 (.ref r_90)))) H locs := hI
        obtain ⟨h_93, eh_93⟩ : ∃ z : xH, z = x_up h_90 x0 (.inr (6, (fs_93 : List Value).set 6 (.ref r_90))) := ⟨_, rfl⟩
        rw [← eh_93] at hI
        have hw := hw h_93 eh_93
        have heh_93 : h_93 x0 = some (.inr (6, (fs_93 : List Value).set 6 (.ref r_90))) := by rw [eh_93]; exact x_up_s
        refine lv_aload_n hx hb dX6_predict_96 rfl (lv_at hl 1 rfl) ?_
        refine lv_dup hx hb dX6_predict_97 rfl ?_
        obtain ⟨v_98, hv_98, hw⟩ := hw
        refine x_get (ci := 6) (C := RX6) (T := TX6) (N := 10) hx hb hg ku_X6 hown hK hI heh_93 rfl 3 (by decide) (hg _ kf_X6_47) (fun _ h9 => h9) hv_98 dX6_predict_98 ?_
        refine lv_iconst (v := 1) hx hb dX6_predict_101 (by decide) ?_
        refine lv_iadd hx hb dX6_predict_102 ?_
        obtain ⟨hlen103, hw⟩ := hw
        refine x_put (ci := 6) (v := .int (v_98 + 1)) (ty := .int) (C := RX6) (T := TX6) (N := 10) hx hb hg ku_X6 tyX6 tyX6_ok nmX6 hown hK hI heh_93 rfl 3 (by decide) (hg _ kf_X6_47) (fun _ h9 => h9) rfl (by decide +kernel) rfl rfl hlen103 dX6_predict_103 (fun H locs hI => ?_)
        have hI : x_I G (x_A h0 s.heap.size) s.heap (x_up h_93 x0 (.inr (6, ((fs_93 : List Value).set 6 (.ref r_90) : List Value).set 3 (.int (v_98 + 1))))) H locs := hI
        obtain ⟨h_103, eh_103⟩ : ∃ z : xH, z = x_up h_93 x0 (.inr (6, ((fs_93 : List Value).set 6 (.ref r_90) : List Value).set 3 (.int (v_98 + 1)))) := ⟨_, rfl⟩
        rw [← eh_103] at hI
        have hw := hw h_103 eh_103
        have heh_103 : h_103 x0 = some (.inr (6, ((fs_93 : List Value).set 6 (.ref r_90) : List Value).set 3 (.int (v_98 + 1)))) := by rw [eh_103]; exact x_up_s
        refine lv_aload_n hx hb dX6_predict_106 rfl (lv_at hl 1 rfl) ?_
        obtain ⟨v_107, hv_107, hw⟩ := hw
        refine x_get (ci := 6) (C := RX6) (T := TX6) (N := 10) hx hb hg ku_X6 hown hK hI heh_103 rfl 3 (by decide) (hg _ kf_X6_47) (fun _ h9 => h9) hv_107 dX6_predict_107 ?_
        exact vx_ret (x_iret hx hb hr hlocks hI hw (by omega) (by omega) dX6_predict_110)
      · have hw := hw.2 hc23
        exact mj_X6_predict_26 C mc ms post postx  _ _ _ _ _ _ _ _ hw hI (by omega) (by omega) (lv_sub hl [] rfl)
-- ===== ExactFilter.measure
abbrev rX6_measure (mc ms : Nat) : Room := { frames := 8, cells := mc, slots := ms, locals := 198 }
set_option maxRecDepth 100000 in
def wj_X6_measure_43  (post : Int32 → xH → Prop) (postx : String → xH → Prop)  (h : xH) (kc : Nat) (ks : Nat) : Prop := 1 ≤ kc ∧ 6 ≤ ks ∧ postx EIS h
set_option maxRecDepth 100000 in
def wp_X6_measure (h0 : xH) (mc ms : Nat) (x0 : Nat) (x1 : Int32) (x2 : Int32) (post : Int32 → xH → Prop) (postx : String → xH → Prop) : Prop := wp_X6_isFraction h0  x1 x2 (fun (r_2 : Int32) => (¬ r_2 = 0 → ∃ fs_17 : List Value, h0 x0 = some (.inr (6, fs_17)) ∧ ∃ v_17 : Int32, fs_17[2]? = some (.int v_17) ∧ (v_17 = 0 → wj_X6_measure_43  post postx  h0 mc ms) ∧ (¬ v_17 = 0 → ∃ v_24 : Nat, fs_17[0]? = some (.ref v_24) ∧ ∃ fs_29 : List Value, h0 v_24 = some (.inr (1, fs_29)) ∧ wp_X1_isFit h0  v_24 6 (fun (r_29 : Int32) => (r_29 = 0 → wj_X6_measure_43  post postx  h0 mc ms) ∧ (¬ r_29 = 0 → ∃ v_36 : Int32, fs_17[4]? = some (.int v_36) ∧ (v_36 < 3 → ∃ mc_56 ms_56 : Nat, mc_56 ≤ mc ∧ ms_56 ≤ ms ∧ wp_X1_table h0 mc_56 ms_56 v_24 5 (fun (r_56 : Nat) (h_56 : xH) => ∃ fs_61 : List Value, h_56 r_56 = some (.inr (4, fs_61)) ∧ ∃ mc_61 ms_61 : Nat, mc_61 ≤ (mc - mc_56) ∧ ms_61 ≤ (ms - ms_56) ∧ wp_X4_turned h_56 mc_61 ms_61 r_56 (fun (r_61 : Nat) (h_61 : xH) => ∃ fs_69 : List Value, h_61 x0 = some (.inr (6, fs_69)) ∧ ∃ v_69 : Nat, fs_69[6]? = some (.ref v_69) ∧ ∃ fs_72 : List Value, h_61 r_61 = some (.inr (4, fs_72)) ∧ ∃ mc_72 ms_72 : Nat, mc_72 ≤ ((mc - mc_56) - mc_61) ∧ ms_72 ≤ ((ms - ms_56) - ms_61) ∧ wp_X4_times h_61 mc_72 ms_72 r_61 v_69 (fun (r_72 : Nat) (h_72 : xH) => ∃ fs_80 : List Value, h_72 r_72 = some (.inr (4, fs_80)) ∧ ∃ mc_80 ms_80 : Nat, mc_80 ≤ (((mc - mc_56) - mc_61) - mc_72) ∧ ms_80 ≤ (((ms - ms_56) - ms_61) - ms_72) ∧ wp_X4_times h_72 mc_80 ms_80 r_72 r_56 (fun (r_80 : Nat) (h_80 : xH) => ∃ fs_84 : List Value, h_80 x0 = some (.inr (6, fs_84)) ∧ ∃ v_84 : Nat, fs_84[0]? = some (.ref v_84) ∧ ∃ fs_89 : List Value, h_80 v_84 = some (.inr (1, fs_89)) ∧ ∃ mc_89 ms_89 : Nat, mc_89 ≤ ((((mc - mc_56) - mc_61) - mc_72) - mc_80) ∧ ms_89 ≤ ((((ms - ms_56) - ms_61) - ms_72) - ms_80) ∧ wp_X1_table h_80 mc_89 ms_89 v_84 6 (fun (r_89 : Nat) (h_89 : xH) => ∃ fs_92 : List Value, h_89 r_80 = some (.inr (4, fs_92)) ∧ ∃ mc_92 ms_92 : Nat, mc_92 ≤ (((((mc - mc_56) - mc_61) - mc_72) - mc_80) - mc_89) ∧ ms_92 ≤ (((((ms - ms_56) - ms_61) - ms_72) - ms_80) - ms_89) ∧ wp_X4_plus h_89 mc_92 ms_92 r_80 r_89 (fun (r_92 : Nat) (h_92 : xH) => ∃ fs_99 : List Value, h_92 r_92 = some (.inr (4, fs_99)) ∧ wp_X4_isNothing h_92  r_92 (fun (r_99 : Int32) => (r_99 = 0 → ∃ fs_116 : List Value, h_92 x0 = some (.inr (6, fs_116)) ∧ 8 < (fs_116 : List Value).length ∧ ∀ h_116 : xH, h_116 = x_up h_92 x0 (.inr (6, (fs_116 : List Value).set 8 (.ref r_92))) → ∃ mc_122 ms_122 : Nat, mc_122 ≤ ((((((mc - mc_56) - mc_61) - mc_72) - mc_80) - mc_89) - mc_92) ∧ ms_122 ≤ ((((((ms - ms_56) - ms_61) - ms_72) - ms_80) - ms_89) - ms_92) ∧ wp_X4_ofFraction h_116 mc_122 ms_122 x1 x2 (fun (r_122 : Nat) (h_122 : xH) => ∃ fs_128 : List Value, h_122 x0 = some (.inr (6, fs_128)) ∧ ∃ v_128 : Nat, fs_128[5]? = some (.ref v_128) ∧ ∃ fs_131 : List Value, h_122 r_61 = some (.inr (4, fs_131)) ∧ ∃ mc_131 ms_131 : Nat, mc_131 ≤ (((((((mc - mc_56) - mc_61) - mc_72) - mc_80) - mc_89) - mc_92) - mc_122) ∧ ms_131 ≤ (((((((ms - ms_56) - ms_61) - ms_72) - ms_80) - ms_89) - ms_92) - ms_122) ∧ wp_X4_times h_122 mc_131 ms_131 r_61 v_128 (fun (r_131 : Nat) (h_131 : xH) => ∃ fs_134 : List Value, h_131 r_122 = some (.inr (4, fs_134)) ∧ ∃ mc_134 ms_134 : Nat, mc_134 ≤ ((((((((mc - mc_56) - mc_61) - mc_72) - mc_80) - mc_89) - mc_92) - mc_122) - mc_131) ∧ ms_134 ≤ ((((((((ms - ms_56) - ms_61) - ms_72) - ms_80) - ms_89) - ms_92) - ms_122) - ms_131) ∧ wp_X4_minus h_131 mc_134 ms_134 r_122 r_131 (fun (r_134 : Nat) (h_134 : xH) => ∃ fs_137 : List Value, h_134 x0 = some (.inr (6, fs_137)) ∧ 7 < (fs_137 : List Value).length ∧ ∀ h_137 : xH, h_137 = x_up h_134 x0 (.inr (6, (fs_137 : List Value).set 7 (.ref r_134))) → ∃ fs_143 : List Value, h_137 r_72 = some (.inr (4, fs_143)) ∧ ∃ mc_143 ms_143 : Nat, mc_143 ≤ (((((((((mc - mc_56) - mc_61) - mc_72) - mc_80) - mc_89) - mc_92) - mc_122) - mc_131) - mc_134) ∧ ms_143 ≤ (((((((((ms - ms_56) - ms_61) - ms_72) - ms_80) - ms_89) - ms_92) - ms_122) - ms_131) - ms_134) ∧ wp_X4_turned h_137 mc_143 ms_143 r_72 (fun (r_143 : Nat) (h_143 : xH) => ∃ fs_148 : List Value, h_143 r_143 = some (.inr (4, fs_148)) ∧ ∃ mc_148 ms_148 : Nat, mc_148 ≤ ((((((((((mc - mc_56) - mc_61) - mc_72) - mc_80) - mc_89) - mc_92) - mc_122) - mc_131) - mc_134) - mc_143) ∧ ms_148 ≤ ((((((((((ms - ms_56) - ms_61) - ms_72) - ms_80) - ms_89) - ms_92) - ms_122) - ms_131) - ms_134) - ms_143) ∧ wp_X4_over h_143 mc_148 ms_148 r_143 r_92 (fun (r_148 : Nat) (h_148 : xH) => ∃ fs_151 : List Value, h_148 x0 = some (.inr (6, fs_151)) ∧ 9 < (fs_151 : List Value).length ∧ ∀ h_151 : xH, h_151 = x_up h_148 x0 (.inr (6, (fs_151 : List Value).set 9 (.ref r_148))) → ∃ v_156 : Nat, ((fs_151 : List Value).set 9 (.ref r_148) : List Value)[5]? = some (.ref v_156) ∧ ∃ v_160 : Nat, ((fs_151 : List Value).set 9 (.ref r_148) : List Value)[9]? = some (.ref v_160) ∧ ∃ v_164 : Nat, ((fs_151 : List Value).set 9 (.ref r_148) : List Value)[7]? = some (.ref v_164) ∧ ∃ fs_167 : List Value, h_151 v_160 = some (.inr (4, fs_167)) ∧ ∃ mc_167 ms_167 : Nat, mc_167 ≤ (((((((((((mc - mc_56) - mc_61) - mc_72) - mc_80) - mc_89) - mc_92) - mc_122) - mc_131) - mc_134) - mc_143) - mc_148) ∧ ms_167 ≤ (((((((((((ms - ms_56) - ms_61) - ms_72) - ms_80) - ms_89) - ms_92) - ms_122) - ms_131) - ms_134) - ms_143) - ms_148) ∧ wp_X4_times h_151 mc_167 ms_167 v_160 v_164 (fun (r_167 : Nat) (h_167 : xH) => ∃ fs_170 : List Value, h_167 v_156 = some (.inr (4, fs_170)) ∧ ∃ mc_170 ms_170 : Nat, mc_170 ≤ ((((((((((((mc - mc_56) - mc_61) - mc_72) - mc_80) - mc_89) - mc_92) - mc_122) - mc_131) - mc_134) - mc_143) - mc_148) - mc_167) ∧ ms_170 ≤ ((((((((((((ms - ms_56) - ms_61) - ms_72) - ms_80) - ms_89) - ms_92) - ms_122) - ms_131) - ms_134) - ms_143) - ms_148) - ms_167) ∧ wp_X4_plus h_167 mc_170 ms_170 v_156 r_167 (fun (r_170 : Nat) (h_170 : xH) => ∃ fs_173 : List Value, h_170 r_170 = some (.inr (4, fs_173)) ∧ ∃ mc_173 ms_173 : Nat, mc_173 ≤ (((((((((((((mc - mc_56) - mc_61) - mc_72) - mc_80) - mc_89) - mc_92) - mc_122) - mc_131) - mc_134) - mc_143) - mc_148) - mc_167) - mc_170) ∧ ms_173 ≤ (((((((((((((ms - ms_56) - ms_61) - ms_72) - ms_80) - ms_89) - ms_92) - ms_122) - ms_131) - ms_134) - ms_143) - ms_148) - ms_167) - ms_170) ∧ wp_X4_shortened h_170 mc_173 ms_173 r_170 (fun (r_173 : Nat) (h_173 : xH) => ∃ fs_176 : List Value, h_173 x0 = some (.inr (6, fs_176)) ∧ 5 < (fs_176 : List Value).length ∧ ∀ h_176 : xH, h_176 = x_up h_173 x0 (.inr (6, (fs_176 : List Value).set 5 (.ref r_173))) → ∃ v_181 : Nat, ((fs_176 : List Value).set 5 (.ref r_173) : List Value)[6]? = some (.ref v_181) ∧ ∃ v_185 : Nat, ((fs_176 : List Value).set 5 (.ref r_173) : List Value)[9]? = some (.ref v_185) ∧ ∃ fs_190 : List Value, h_176 v_185 = some (.inr (4, fs_190)) ∧ ∃ mc_190 ms_190 : Nat, mc_190 ≤ ((((((((((((((mc - mc_56) - mc_61) - mc_72) - mc_80) - mc_89) - mc_92) - mc_122) - mc_131) - mc_134) - mc_143) - mc_148) - mc_167) - mc_170) - mc_173) ∧ ms_190 ≤ ((((((((((((((ms - ms_56) - ms_61) - ms_72) - ms_80) - ms_89) - ms_92) - ms_122) - ms_131) - ms_134) - ms_143) - ms_148) - ms_167) - ms_170) - ms_173) ∧ wp_X4_times h_176 mc_190 ms_190 v_185 r_72 (fun (r_190 : Nat) (h_190 : xH) => ∃ fs_193 : List Value, h_190 v_181 = some (.inr (4, fs_193)) ∧ ∃ mc_193 ms_193 : Nat, mc_193 ≤ (((((((((((((((mc - mc_56) - mc_61) - mc_72) - mc_80) - mc_89) - mc_92) - mc_122) - mc_131) - mc_134) - mc_143) - mc_148) - mc_167) - mc_170) - mc_173) - mc_190) ∧ ms_193 ≤ (((((((((((((((ms - ms_56) - ms_61) - ms_72) - ms_80) - ms_89) - ms_92) - ms_122) - ms_131) - ms_134) - ms_143) - ms_148) - ms_167) - ms_170) - ms_173) - ms_190) ∧ wp_X4_minus h_190 mc_193 ms_193 v_181 r_190 (fun (r_193 : Nat) (h_193 : xH) => ∃ fs_196 : List Value, h_193 r_193 = some (.inr (4, fs_196)) ∧ ∃ mc_196 ms_196 : Nat, mc_196 ≤ ((((((((((((((((mc - mc_56) - mc_61) - mc_72) - mc_80) - mc_89) - mc_92) - mc_122) - mc_131) - mc_134) - mc_143) - mc_148) - mc_167) - mc_170) - mc_173) - mc_190) - mc_193) ∧ ms_196 ≤ ((((((((((((((((ms - ms_56) - ms_61) - ms_72) - ms_80) - ms_89) - ms_92) - ms_122) - ms_131) - ms_134) - ms_143) - ms_148) - ms_167) - ms_170) - ms_173) - ms_190) - ms_193) ∧ wp_X4_shortened h_193 mc_196 ms_196 r_193 (fun (r_196 : Nat) (h_196 : xH) => ∃ fs_199 : List Value, h_196 x0 = some (.inr (6, fs_199)) ∧ 6 < (fs_199 : List Value).length ∧ ∀ h_199 : xH, h_199 = x_up h_196 x0 (.inr (6, (fs_199 : List Value).set 6 (.ref r_196))) → ∃ v_204 : Int32, ((fs_199 : List Value).set 6 (.ref r_196) : List Value)[4]? = some (.int v_204) ∧ 4 < ((fs_199 : List Value).set 6 (.ref r_196) : List Value).length ∧ ∀ h_209 : xH, h_209 = x_up h_199 x0 (.inr (6, ((fs_199 : List Value).set 6 (.ref r_196) : List Value).set 4 (.int (v_204 + 1)))) → ∃ v_213 : Int32, (((fs_199 : List Value).set 6 (.ref r_196) : List Value).set 4 (.int (v_204 + 1)) : List Value)[4]? = some (.int v_213) ∧ post v_213 h_209)))))))))))) ∧ (¬ r_99 = 0 → 1 ≤ ((((((mc - mc_56) - mc_61) - mc_72) - mc_80) - mc_89) - mc_92) ∧ 6 ≤ ((((((ms - ms_56) - ms_61) - ms_72) - ms_80) - ms_89) - ms_92) ∧ postx EAR h_92))))))))) ∧ (¬ v_36 < 3 → wj_X6_measure_43  post postx  h0 mc ms))))) ∧ (r_2 = 0 → 1 ≤ mc ∧ 6 ≤ ms ∧ postx EIA h0))
set_option maxHeartbeats 4000000 in
set_option maxRecDepth 100000 in
theorem mj_X6_measure_43 {h0 : xH} (C : CXT p l s m args meth c G RX6 cX6_measure 7 (some .int) h0) (mc ms : Nat) (post : Int32 → xH → Prop) (postx : String → xH → Prop) 
    
    (h : xH) (kc : Nat) (ks : Nat) (H : Heap) (locs : List Loc) (ls : Array Slot) (nc ns : Nat) (hw : wj_X6_measure_43  post postx  h kc ks) (hI : x_I G (x_A h0 s.heap.size) s.heap h H locs) (hkc : nc + kc ≤ mc) (hks : ns + ks ≤ ms) (hl : lv_has ls 7 []) : W p l e (rX6_measure mc ms) s m args below meth c H locs nc ns (vx_MQ below (x_Qi G h0 s.heap.size post) (x_X G h0 s.heap.size postx) args s mc ms (x_A h0 s.heap.size)) (F0 m 43 ls []) := by
  obtain ⟨⟨hx, hb, hr, hml, hown, hg, hlocks, hK⟩, hno, hZ, hst⟩ := id C
  unfold wj_X6_measure_43 at hw
  obtain ⟨hkc1, hks1, hw⟩ := hw
  exact x_thr hx hb hst hown (by decide +kernel) (hg _ (at_links _ (by decide +kernel))) (hg _ (at_links _ (by decide +kernel))) (x_at hg hZ.2.2 at_75a at_75b) at_75c hZ hI (by rw [hml]; exact hl.1) dX6_measure_43 dX6_measure_46 dX6_measure_47 dX6_measure_50 hno (Nat.le_of_ble_eq_true rfl) (Nat.le_of_ble_eq_true rfl) (show nc + 1 ≤ mc by omega) (show ns + 6 ≤ ms by omega) hlocks hw (show nc + 1 ≤ mc by omega) (show ns + 6 ≤ ms by omega)
set_option maxHeartbeats 4000000 in
set_option maxRecDepth 100000 in
theorem m_X6_measure (l : Launch) (hst : l.stackTraces = false) (G : xG) (h0 : xH) (mc ms : Nat) (x0 : Nat) (x1 : Int32) (x2 : Int32) (post : Int32 → xH → Prop) (postx : String → xH → Prop) (hw : wp_X6_measure h0 mc ms x0 x1 x2 post postx) (sz : Nat) : vx_Met l yX6_measure (wu yX6_measure cX6_measure 7 (some .int)) (rX6_measure mc ms) (x_Px G [.ref x0, .int x1, .int x2] h0 sz) (x_Qi G h0 sz post) (x_X G h0 sz postx) mc ms (x_A h0 sz) := by
  refine vx_ofW (cc := cX6_measure) (maxL := 7) (ret := (some .int)) (by decide) rfl ?_
  intro p e s m args below meth c s₁ B hml hno hv
  obtain ⟨rfl, hsz, hR, hK, hZ⟩ := hv
  subst hsz
  have C : CXT p l s m _ meth c G RX6 cX6_measure 7 (some .int) h0 := ⟨⟨B.exec, B.bytes, B.returns, hml, findClass_of_methodNamed B.named, x_hg (atoms_spec (ws := wu yX6_measure cX6_measure 7 (some .int)) B.pre), B.notSynchronized, hK⟩, hno, hZ, hst⟩
  obtain ⟨⟨hx, hb, hr, hml, hown, hg, hlocks, hK⟩, hno, hZ, hst⟩ := id C
  have hI : x_I G (x_A h0 s.heap.size) s.heap h0 s.heap [] := x_I.start hR
  have hkc : 0 + mc ≤ mc := by omega
  have hks : 0 + ms ≤ ms := by omega
  have hl := lv_entry ([.ref x0, .int x1, .int x2]) (n := 7) (Nat.le_of_ble_eq_true rfl)
  rw [lg_entry_eq]
  generalize (lg_sl ([.ref x0, .int x1, .int x2]) ++ List.replicate (7 - (lg_sl ([.ref x0, .int x1, .int x2])).length) Slot.unset).toArray = ls at hl ⊢
  have hl : lv_has ls 7 [(0, .ref x0), (1, .int x1), (2, .int x2)] := hl
  unfold wp_X6_measure at hw
  refine lv_iload_n hx hb dX6_measure_0 rfl (lv_at hl 1 rfl) ?_
  refine lv_iload_n hx hb dX6_measure_1 rfl (lv_at hl 2 rfl) ?_
  refine x_ci (va_runS (As := [.int x1, .int x2]) (rest := []) ⟨hx, hb, hml, hown, hg⟩ (m_X6_isFraction l G h0  x1 x2 _ hw s.heap.size) (va_cwS 2 hg (x_gS km_X6_58 ks_X6_isFraction kn_X6 kk_X6_isFraction) rfl rfl rfl (by decide +kernel) ⟨Nat.le_of_ble_eq_true rfl, Nat.le_of_ble_eq_true rfl⟩) ⟨x_blind, x_pre hI hK⟩ rfl rfl hl.1 rfl (lv_room (Nat.le_of_ble_eq_true rfl)) dX6_measure_2 ⟨show 0 + 0 ≤ mc by omega, show 0 + 0 ≤ ms by omega⟩) hI (fun r_2 h_2 H locs hw hI => ?_)
  obtain ⟨eh_2, hw⟩ := hw
  rw [eh_2] at hI
  refine lv_if_ne (tgt := 16) hx hb dX6_measure_5 (by decide) (fun hc5 => ?_) (fun hc5 => ?_)
  · have hw := hw.1 hc5
    refine lv_aload_n hx hb dX6_measure_16 rfl (lv_at hl 0 rfl) ?_
    obtain ⟨fs_17, he_17, hw⟩ := hw
    obtain ⟨v_17, hv_17, hw⟩ := hw
    refine x_get (ci := 6) (C := RX6) (T := TX6) (N := 10) hx hb hg ku_X6 hown hK hI he_17 rfl 2 (by decide) (hg _ kf_X6_43) (fun _ h9 => h9) hv_17 dX6_measure_17 ?_
    refine lv_if_eq (tgt := 43) hx hb dX6_measure_20 (by decide) (fun hc20 => ?_) (fun hc20 => ?_)
    · have hw := hw.1 hc20
      exact mj_X6_measure_43 C mc ms post postx  _ _ _ _ _ _ _ _ hw hI (by omega) (by omega) (lv_sub hl [] rfl)
    · have hw := hw.2 hc20
      refine lv_aload_n hx hb dX6_measure_23 rfl (lv_at hl 0 rfl) ?_
      obtain ⟨v_24, hv_24, hw⟩ := hw
      refine x_get (ci := 6) (C := RX6) (T := TX6) (N := 10) hx hb hg ku_X6 hown hK hI he_17 rfl 0 (by decide) (hg _ kf_X6_12) (fun _ h9 => h9) hv_24 dX6_measure_24 ?_
      refine lv_bipush (v := 6) hx hb dX6_measure_27 (by decide) ?_
      obtain ⟨fs_29, he_29, hw⟩ := hw
      refine x_ci (va_runV (As := [.int 6]) (rest := []) ⟨hx, hb, hml, hown, hg⟩ (m_X1_isFit l G h0  v_24 6 _ hw H.size) (cwV 1 hg (x_gV km_X6_66 ki_X1_isFit kz_X1_X1_isFit kn_X1 kk_X1_isFit) rfl rfl rfl (by decide +kernel) ⟨Nat.le_of_ble_eq_true rfl, Nat.le_of_ble_eq_true rfl⟩) ⟨x_blind, x_recv hI hK he_29 rfl rfl, x_pre hI hK⟩ rfl rfl hl.1 rfl (lv_room (Nat.le_of_ble_eq_true rfl)) dX6_measure_29 ⟨show 0 + 0 + 0 ≤ mc by omega, show 0 + 0 + 0 ≤ ms by omega⟩) hI (fun r_29 h_29 H locs hw hI => ?_)
      obtain ⟨eh_29, hw⟩ := hw
      rw [eh_29] at hI
      refine lv_if_eq (tgt := 43) hx hb dX6_measure_32 (by decide) (fun hc32 => ?_) (fun hc32 => ?_)
      · have hw := hw.1 hc32
        exact mj_X6_measure_43 C mc ms post postx  _ _ _ _ _ _ _ _ hw hI (by omega) (by omega) (lv_sub hl [] rfl)
      · have hw := hw.2 hc32
        refine lv_aload_n hx hb dX6_measure_35 rfl (lv_at hl 0 rfl) ?_
        obtain ⟨v_36, hv_36, hw⟩ := hw
        refine x_get (ci := 6) (C := RX6) (T := TX6) (N := 10) hx hb hg ku_X6 hown hK hI he_17 rfl 4 (by decide) (hg _ kf_X6_51) (fun _ h9 => h9) hv_36 dX6_measure_36 ?_
        refine lv_iconst (v := 3) hx hb dX6_measure_39 (by decide) ?_
        refine lv_icmp_lt (tgt := 51) hx hb dX6_measure_40 (by decide) (fun hc40 => ?_) (fun hc40 => ?_)
        · have hw := hw.1 hc40
          refine lv_aload_n hx hb dX6_measure_51 rfl (lv_at hl 0 rfl) ?_
          refine x_get (ci := 6) (C := RX6) (T := TX6) (N := 10) hx hb hg ku_X6 hown hK hI he_17 rfl 0 (by decide) (hg _ kf_X6_12) (fun _ h9 => h9) hv_24 dX6_measure_52 ?_
          refine lv_iconst (v := 5) hx hb dX6_measure_55 (by decide) ?_
          obtain ⟨mc_56, ms_56, hkc1, hks1, hw⟩ := hw
          refine x_cr (va_runV (As := [.int 5]) (rest := []) ⟨hx, hb, hml, hown, hg⟩ (m_X1_table l G h0 mc_56 ms_56 v_24 5 _ hw H.size) (cwV 1 hg (x_gV km_X6_76 ki_X1_table kz_X1_X1_table kn_X1 kk_X1_table) rfl rfl rfl (by decide +kernel) ⟨Nat.le_of_ble_eq_true rfl, Nat.le_of_ble_eq_true rfl⟩) ⟨x_blind, x_recv hI hK he_29 rfl rfl, x_pre hI hK⟩ rfl rfl hl.1 rfl (lv_room (Nat.le_of_ble_eq_true rfl)) dX6_measure_56 ⟨show 0 + 0 + 0 + mc_56 ≤ mc by omega, show 0 + 0 + 0 + ms_56 ≤ ms by omega⟩) hI (fun r_56 h_56 H locs hw hI => ?_)
          refine lv_astore_n (lv' := [(3, .ref r_56), (0, .ref x0), (1, .int x1), (2, .int x2)]) hx hb dX6_measure_59 rfl hl (by decide) rfl (fun ls hl => ?_)
          refine lv_aload_n hx hb dX6_measure_60 rfl (lv_at hl 0 rfl) ?_
          obtain ⟨fs_61, he_61, hw⟩ := hw
          obtain ⟨mc_61, ms_61, hkc1, hks1, hw⟩ := hw
          refine x_cr (va_runV (As := []) (rest := []) ⟨hx, hb, hml, hown, hg⟩ (m_X4_turned l G h_56 mc_61 ms_61 r_56 _ hw H.size) (cwV 0 hg (x_gV km_X6_87 ki_X4_turned kz_X4_X4_turned kn_X4 kk_X4_turned) rfl rfl rfl (by decide +kernel) ⟨Nat.le_of_ble_eq_true rfl, Nat.le_of_ble_eq_true rfl⟩) ⟨x_blind, x_recv hI hK he_61 rfl rfl, x_pre hI hK⟩ rfl rfl hl.1 rfl (lv_room (Nat.le_of_ble_eq_true rfl)) dX6_measure_61 ⟨show 0 + 0 + 0 + mc_56 + mc_61 ≤ mc by omega, show 0 + 0 + 0 + ms_56 + ms_61 ≤ ms by omega⟩) hI (fun r_61 h_61 H locs hw hI => ?_)
          refine lv_astore (lv' := [(4, .ref r_61), (3, .ref r_56), (0, .ref x0), (1, .int x1), (2, .int x2)]) hx hb dX6_measure_64 hl (by decide) rfl (fun ls hl => ?_)
          refine lv_aload hx hb dX6_measure_66 (lv_at hl 0 rfl) ?_
          refine lv_aload_n hx hb dX6_measure_68 rfl (lv_at hl 2 rfl) ?_
          obtain ⟨fs_69, he_69, hw⟩ := hw
          obtain ⟨v_69, hv_69, hw⟩ := hw
          refine x_get (ci := 6) (C := RX6) (T := TX6) (N := 10) hx hb hg ku_X6 hown hK hI he_69 rfl 6 (by decide) (hg _ kf_X6_28) (fun _ h9 => h9) hv_69 dX6_measure_69 ?_
          obtain ⟨fs_72, he_72, hw⟩ := hw
          obtain ⟨mc_72, ms_72, hkc1, hks1, hw⟩ := hw
          refine x_cr (va_runV (As := [.ref v_69]) (rest := []) ⟨hx, hb, hml, hown, hg⟩ (m_X4_times l G h_61 mc_72 ms_72 r_61 v_69 _ hw H.size) (cwV 1 hg (x_gV km_X6_80 ki_X4_times kz_X4_X4_times kn_X4 kk_X4_times) rfl rfl rfl (by decide +kernel) ⟨Nat.le_of_ble_eq_true rfl, Nat.le_of_ble_eq_true rfl⟩) ⟨x_blind, x_recv hI hK he_72 rfl rfl, x_pre hI hK⟩ rfl rfl hl.1 rfl (lv_room (Nat.le_of_ble_eq_true rfl)) dX6_measure_72 ⟨show 0 + 0 + 0 + mc_56 + mc_61 + mc_72 ≤ mc by omega, show 0 + 0 + 0 + ms_56 + ms_61 + ms_72 ≤ ms by omega⟩) hI (fun r_72 h_72 H locs hw hI => ?_)
          refine lv_astore (lv' := [(5, .ref r_72), (4, .ref r_61), (3, .ref r_56), (0, .ref x0), (1, .int x1), (2, .int x2)]) hx hb dX6_measure_75 hl (by decide) rfl (fun ls hl => ?_)
          refine lv_aload hx hb dX6_measure_77 (lv_at hl 0 rfl) ?_
          refine lv_aload_n hx hb dX6_measure_79 rfl (lv_at hl 2 rfl) ?_
          obtain ⟨fs_80, he_80, hw⟩ := hw
          obtain ⟨mc_80, ms_80, hkc1, hks1, hw⟩ := hw
          refine x_cr (va_runV (As := [.ref r_56]) (rest := []) ⟨hx, hb, hml, hown, hg⟩ (m_X4_times l G h_72 mc_80 ms_80 r_72 r_56 _ hw H.size) (cwV 1 hg (x_gV km_X6_80 ki_X4_times kz_X4_X4_times kn_X4 kk_X4_times) rfl rfl rfl (by decide +kernel) ⟨Nat.le_of_ble_eq_true rfl, Nat.le_of_ble_eq_true rfl⟩) ⟨x_blind, x_recv hI hK he_80 rfl rfl, x_pre hI hK⟩ rfl rfl hl.1 rfl (lv_room (Nat.le_of_ble_eq_true rfl)) dX6_measure_80 ⟨show 0 + 0 + 0 + mc_56 + mc_61 + mc_72 + mc_80 ≤ mc by omega, show 0 + 0 + 0 + ms_56 + ms_61 + ms_72 + ms_80 ≤ ms by omega⟩) hI (fun r_80 h_80 H locs hw hI => ?_)
          refine lv_aload_n hx hb dX6_measure_83 rfl (lv_at hl 3 rfl) ?_
          obtain ⟨fs_84, he_84, hw⟩ := hw
          obtain ⟨v_84, hv_84, hw⟩ := hw
          refine x_get (ci := 6) (C := RX6) (T := TX6) (N := 10) hx hb hg ku_X6 hown hK hI he_84 rfl 0 (by decide) (hg _ kf_X6_12) (fun _ h9 => h9) hv_84 dX6_measure_84 ?_
          refine lv_bipush (v := 6) hx hb dX6_measure_87 (by decide) ?_
          obtain ⟨fs_89, he_89, hw⟩ := hw
          obtain ⟨mc_89, ms_89, hkc1, hks1, hw⟩ := hw
          refine x_cr (va_runV (As := [.int 6]) (rest := [.ref r_80]) ⟨hx, hb, hml, hown, hg⟩ (m_X1_table l G h_80 mc_89 ms_89 v_84 6 _ hw H.size) (cwV 1 hg (x_gV km_X6_76 ki_X1_table kz_X1_X1_table kn_X1 kk_X1_table) rfl rfl rfl (by decide +kernel) ⟨Nat.le_of_ble_eq_true rfl, Nat.le_of_ble_eq_true rfl⟩) ⟨x_blind, x_recv hI hK he_89 rfl rfl, x_pre hI hK⟩ rfl rfl hl.1 rfl (lv_room (Nat.le_of_ble_eq_true rfl)) dX6_measure_89 ⟨show 0 + 0 + 0 + mc_56 + mc_61 + mc_72 + mc_80 + mc_89 ≤ mc by omega, show 0 + 0 + 0 + ms_56 + ms_61 + ms_72 + ms_80 + ms_89 ≤ ms by omega⟩) hI (fun r_89 h_89 H locs hw hI => ?_)
          obtain ⟨fs_92, he_92, hw⟩ := hw
          obtain ⟨mc_92, ms_92, hkc1, hks1, hw⟩ := hw
          refine x_cr (va_runV (As := [.ref r_89]) (rest := []) ⟨hx, hb, hml, hown, hg⟩ (m_X4_plus l G h_89 mc_92 ms_92 r_80 r_89 _ hw H.size) (cwV 1 hg (x_gV km_X6_84 ki_X4_plus kz_X4_X4_plus kn_X4 kk_X4_plus) rfl rfl rfl (by decide +kernel) ⟨Nat.le_of_ble_eq_true rfl, Nat.le_of_ble_eq_true rfl⟩) ⟨x_blind, x_recv hI hK he_92 rfl rfl, x_pre hI hK⟩ rfl rfl hl.1 rfl (lv_room (Nat.le_of_ble_eq_true rfl)) dX6_measure_92 ⟨show 0 + 0 + 0 + mc_56 + mc_61 + mc_72 + mc_80 + mc_89 + mc_92 ≤ mc by omega, show 0 + 0 + 0 + ms_56 + ms_61 + ms_72 + ms_80 + ms_89 + ms_92 ≤ ms by omega⟩) hI (fun r_92 h_92 H locs hw hI => ?_)
          refine lv_astore (lv' := [(6, .ref r_92), (5, .ref r_72), (4, .ref r_61), (3, .ref r_56), (0, .ref x0), (1, .int x1), (2, .int x2)]) hx hb dX6_measure_95 hl (by decide) rfl (fun ls hl => ?_)
          refine lv_aload hx hb dX6_measure_97 (lv_at hl 0 rfl) ?_
          obtain ⟨fs_99, he_99, hw⟩ := hw
          refine x_ci (va_runV (As := []) (rest := []) ⟨hx, hb, hml, hown, hg⟩ (m_X4_isNothing l G h_92  r_92 _ hw H.size) (cwV 0 hg (x_gV km_X6_91 ki_X4_isNothing kz_X4_X4_isNothing kn_X4 kk_X4_isNothing) rfl rfl rfl (by decide +kernel) ⟨Nat.le_of_ble_eq_true rfl, Nat.le_of_ble_eq_true rfl⟩) ⟨x_blind, x_recv hI hK he_99 rfl rfl, x_pre hI hK⟩ rfl rfl hl.1 rfl (lv_room (Nat.le_of_ble_eq_true rfl)) dX6_measure_99 ⟨show 0 + 0 + 0 + mc_56 + mc_61 + mc_72 + mc_80 + mc_89 + mc_92 + 0 ≤ mc by omega, show 0 + 0 + 0 + ms_56 + ms_61 + ms_72 + ms_80 + ms_89 + ms_92 + 0 ≤ ms by omega⟩) hI (fun r_99 h_99 H locs hw hI => ?_)
          obtain ⟨eh_99, hw⟩ := hw
          rw [eh_99] at hI
          refine lv_if_eq (tgt := 113) hx hb dX6_measure_102 (by decide) (fun hc102 => ?_) (fun hc102 => ?_)
          · have hw := hw.1 hc102
            refine lv_aload_n hx hb dX6_measure_113 rfl (lv_at hl 4 rfl) ?_
            refine lv_aload hx hb dX6_measure_114 (lv_at hl 0 rfl) ?_
            obtain ⟨fs_116, he_116, hw⟩ := hw
            obtain ⟨hlen116, hw⟩ := hw
            refine x_put (ci := 6) (v := .ref r_92) (ty := .object "ExactFilter$Table") (C := RX6) (T := TX6) (N := 10) hx hb hg ku_X6 tyX6 tyX6_ok nmX6 hown hK hI he_116 rfl 8 (by decide) (hg _ kf_X6_34) (fun _ h9 => h9) rfl (by decide +kernel) rfl rfl hlen116 dX6_measure_116 (fun H locs hI => ?_)
            have hI : x_I G (x_A h0 s.heap.size) s.heap (x_up h_92 x0 (.inr (6, (fs_116 : List Value).set 8 (.ref r_92)))) H locs := hI
            obtain ⟨h_116, eh_116⟩ : ∃ z : xH, z = x_up h_92 x0 (.inr (6, (fs_116 : List Value).set 8 (.ref r_92))) := ⟨_, rfl⟩
            rw [← eh_116] at hI
            have hw := hw h_116 eh_116
            have heh_116 : h_116 x0 = some (.inr (6, (fs_116 : List Value).set 8 (.ref r_92))) := by rw [eh_116]; exact x_up_s
            refine lv_aload_n hx hb dX6_measure_119 rfl (lv_at hl 4 rfl) ?_
            refine lv_iload_n hx hb dX6_measure_120 rfl (lv_at hl 5 rfl) ?_
            refine lv_iload_n hx hb dX6_measure_121 rfl (lv_at hl 6 rfl) ?_
            obtain ⟨mc_122, ms_122, hkc1, hks1, hw⟩ := hw
            refine x_cr (va_runS (As := [.int x1, .int x2]) (rest := [.ref x0]) ⟨hx, hb, hml, hown, hg⟩ (m_X4_ofFraction l G h_116 mc_122 ms_122 x1 x2 _ hw H.size) (va_cwS 2 hg (x_gS km_X6_18 ks_X4_ofFraction kn_X4 kk_X4_ofFraction) rfl rfl rfl (by decide +kernel) ⟨Nat.le_of_ble_eq_true rfl, Nat.le_of_ble_eq_true rfl⟩) ⟨x_blind, x_pre hI hK⟩ rfl rfl hl.1 rfl (lv_room (Nat.le_of_ble_eq_true rfl)) dX6_measure_122 ⟨show 0 + 0 + 0 + mc_56 + mc_61 + mc_72 + mc_80 + mc_89 + mc_92 + 0 + mc_122 ≤ mc by omega, show 0 + 0 + 0 + ms_56 + ms_61 + ms_72 + ms_80 + ms_89 + ms_92 + 0 + ms_122 ≤ ms by omega⟩) hI (fun r_122 h_122 H locs hw hI => ?_)
            refine lv_aload hx hb dX6_measure_125 (lv_at hl 2 rfl) ?_
            refine lv_aload_n hx hb dX6_measure_127 rfl (lv_at hl 4 rfl) ?_
            obtain ⟨fs_128, he_128, hw⟩ := hw
            obtain ⟨v_128, hv_128, hw⟩ := hw
            refine x_get (ci := 6) (C := RX6) (T := TX6) (N := 10) hx hb hg ku_X6 hown hK hI he_128 rfl 5 (by decide) (hg _ kf_X6_24) (fun _ h9 => h9) hv_128 dX6_measure_128 ?_
            obtain ⟨fs_131, he_131, hw⟩ := hw
            obtain ⟨mc_131, ms_131, hkc1, hks1, hw⟩ := hw
            refine x_cr (va_runV (As := [.ref v_128]) (rest := [.ref r_122, .ref x0]) ⟨hx, hb, hml, hown, hg⟩ (m_X4_times l G h_122 mc_131 ms_131 r_61 v_128 _ hw H.size) (cwV 1 hg (x_gV km_X6_80 ki_X4_times kz_X4_X4_times kn_X4 kk_X4_times) rfl rfl rfl (by decide +kernel) ⟨Nat.le_of_ble_eq_true rfl, Nat.le_of_ble_eq_true rfl⟩) ⟨x_blind, x_recv hI hK he_131 rfl rfl, x_pre hI hK⟩ rfl rfl hl.1 rfl (lv_room (Nat.le_of_ble_eq_true rfl)) dX6_measure_131 ⟨show 0 + 0 + 0 + mc_56 + mc_61 + mc_72 + mc_80 + mc_89 + mc_92 + 0 + mc_122 + mc_131 ≤ mc by omega, show 0 + 0 + 0 + ms_56 + ms_61 + ms_72 + ms_80 + ms_89 + ms_92 + 0 + ms_122 + ms_131 ≤ ms by omega⟩) hI (fun r_131 h_131 H locs hw hI => ?_)
            obtain ⟨fs_134, he_134, hw⟩ := hw
            obtain ⟨mc_134, ms_134, hkc1, hks1, hw⟩ := hw
            refine x_cr (va_runV (As := [.ref r_131]) (rest := [.ref x0]) ⟨hx, hb, hml, hown, hg⟩ (m_X4_minus l G h_131 mc_134 ms_134 r_122 r_131 _ hw H.size) (cwV 1 hg (x_gV km_X6_98 ki_X4_minus kz_X4_X4_minus kn_X4 kk_X4_minus) rfl rfl rfl (by decide +kernel) ⟨Nat.le_of_ble_eq_true rfl, Nat.le_of_ble_eq_true rfl⟩) ⟨x_blind, x_recv hI hK he_134 rfl rfl, x_pre hI hK⟩ rfl rfl hl.1 rfl (lv_room (Nat.le_of_ble_eq_true rfl)) dX6_measure_134 ⟨show 0 + 0 + 0 + mc_56 + mc_61 + mc_72 + mc_80 + mc_89 + mc_92 + 0 + mc_122 + mc_131 + mc_134 ≤ mc by omega, show 0 + 0 + 0 + ms_56 + ms_61 + ms_72 + ms_80 + ms_89 + ms_92 + 0 + ms_122 + ms_131 + ms_134 ≤ ms by omega⟩) hI (fun r_134 h_134 H locs hw hI => ?_)
            obtain ⟨fs_137, he_137, hw⟩ := hw
            obtain ⟨hlen137, hw⟩ := hw
            refine x_put (ci := 6) (v := .ref r_134) (ty := .object "ExactFilter$Table") (C := RX6) (T := TX6) (N := 10) hx hb hg ku_X6 tyX6 tyX6_ok nmX6 hown hK hI he_137 rfl 7 (by decide) (hg _ kf_X6_31) (fun _ h9 => h9) rfl (by decide +kernel) rfl rfl hlen137 dX6_measure_137 (fun H locs hI => ?_)
            have hI : x_I G (x_A h0 s.heap.size) s.heap (x_up h_134 x0 (.inr (6, (fs_137 : List Value).set 7 (.ref r_134)))) H locs := hI
            obtain ⟨h_137, eh_137⟩ : ∃ z : xH, z = x_up h_134 x0 (.inr (6, (fs_137 : List Value).set 7 (.ref r_134))) := ⟨_, rfl⟩
            rw [← eh_137] at hI
            have hw := hw h_137 eh_137
            have heh_137 : h_137 x0 = some (.inr (6, (fs_137 : List Value).set 7 (.ref r_134))) := by rw [eh_137]; exact x_up_s
            refine lv_aload_n hx hb dX6_measure_140 rfl (lv_at hl 4 rfl) ?_
            refine lv_aload hx hb dX6_measure_141 (lv_at hl 1 rfl) ?_
            obtain ⟨fs_143, he_143, hw⟩ := hw
            obtain ⟨mc_143, ms_143, hkc1, hks1, hw⟩ := hw
            refine x_cr (va_runV (As := []) (rest := [.ref x0]) ⟨hx, hb, hml, hown, hg⟩ (m_X4_turned l G h_137 mc_143 ms_143 r_72 _ hw H.size) (cwV 0 hg (x_gV km_X6_87 ki_X4_turned kz_X4_X4_turned kn_X4 kk_X4_turned) rfl rfl rfl (by decide +kernel) ⟨Nat.le_of_ble_eq_true rfl, Nat.le_of_ble_eq_true rfl⟩) ⟨x_blind, x_recv hI hK he_143 rfl rfl, x_pre hI hK⟩ rfl rfl hl.1 rfl (lv_room (Nat.le_of_ble_eq_true rfl)) dX6_measure_143 ⟨show 0 + 0 + 0 + mc_56 + mc_61 + mc_72 + mc_80 + mc_89 + mc_92 + 0 + mc_122 + mc_131 + mc_134 + mc_143 ≤ mc by omega, show 0 + 0 + 0 + ms_56 + ms_61 + ms_72 + ms_80 + ms_89 + ms_92 + 0 + ms_122 + ms_131 + ms_134 + ms_143 ≤ ms by omega⟩) hI (fun r_143 h_143 H locs hw hI => ?_)
            refine lv_aload hx hb dX6_measure_146 (lv_at hl 0 rfl) ?_
            obtain ⟨fs_148, he_148, hw⟩ := hw
            obtain ⟨mc_148, ms_148, hkc1, hks1, hw⟩ := hw
            refine x_cr (va_runV (As := [.ref r_92]) (rest := [.ref x0]) ⟨hx, hb, hml, hown, hg⟩ (m_X4_over l G h_143 mc_148 ms_148 r_143 r_92 _ hw H.size) (cwV 1 hg (x_gV km_X6_101 ki_X4_over kz_X4_X4_over kn_X4 kk_X4_over) rfl rfl rfl (by decide +kernel) ⟨Nat.le_of_ble_eq_true rfl, Nat.le_of_ble_eq_true rfl⟩) ⟨x_blind, x_recv hI hK he_148 rfl rfl, x_pre hI hK⟩ rfl rfl hl.1 rfl (lv_room (Nat.le_of_ble_eq_true rfl)) dX6_measure_148 ⟨show 0 + 0 + 0 + mc_56 + mc_61 + mc_72 + mc_80 + mc_89 + mc_92 + 0 + mc_122 + mc_131 + mc_134 + mc_143 + mc_148 ≤ mc by omega, show 0 + 0 + 0 + ms_56 + ms_61 + ms_72 + ms_80 + ms_89 + ms_92 + 0 + ms_122 + ms_131 + ms_134 + ms_143 + ms_148 ≤ ms by omega⟩) hI (fun r_148 h_148 H locs hw hI => ?_)
            obtain ⟨fs_151, he_151, hw⟩ := hw
            obtain ⟨hlen151, hw⟩ := hw
            refine x_put (ci := 6) (v := .ref r_148) (ty := .object "ExactFilter$Table") (C := RX6) (T := TX6) (N := 10) hx hb hg ku_X6 tyX6 tyX6_ok nmX6 hown hK hI he_151 rfl 9 (by decide) (hg _ kf_X6_37) (fun _ h9 => h9) rfl (by decide +kernel) rfl rfl hlen151 dX6_measure_151 (fun H locs hI => ?_)
            have hI : x_I G (x_A h0 s.heap.size) s.heap (x_up h_148 x0 (.inr (6, (fs_151 : List Value).set 9 (.ref r_148)))) H locs := hI
            obtain ⟨h_151, eh_151⟩ : ∃ z : xH, z = x_up h_148 x0 (.inr (6, (fs_151 : List Value).set 9 (.ref r_148))) := ⟨_, rfl⟩
            rw [← eh_151] at hI
            have hw := hw h_151 eh_151
            have heh_151 : h_151 x0 = some (.inr (6, (fs_151 : List Value).set 9 (.ref r_148))) := by rw [eh_151]; exact x_up_s
            refine lv_aload_n hx hb dX6_measure_154 rfl (lv_at hl 4 rfl) ?_
            refine lv_aload_n hx hb dX6_measure_155 rfl (lv_at hl 4 rfl) ?_
            obtain ⟨v_156, hv_156, hw⟩ := hw
            refine x_get (ci := 6) (C := RX6) (T := TX6) (N := 10) hx hb hg ku_X6 hown hK hI heh_151 rfl 5 (by decide) (hg _ kf_X6_24) (fun _ h9 => h9) hv_156 dX6_measure_156 ?_
            refine lv_aload_n hx hb dX6_measure_159 rfl (lv_at hl 4 rfl) ?_
            obtain ⟨v_160, hv_160, hw⟩ := hw
            refine x_get (ci := 6) (C := RX6) (T := TX6) (N := 10) hx hb hg ku_X6 hown hK hI heh_151 rfl 9 (by decide) (hg _ kf_X6_37) (fun _ h9 => h9) hv_160 dX6_measure_160 ?_
            refine lv_aload_n hx hb dX6_measure_163 rfl (lv_at hl 4 rfl) ?_
            obtain ⟨v_164, hv_164, hw⟩ := hw
            refine x_get (ci := 6) (C := RX6) (T := TX6) (N := 10) hx hb hg ku_X6 hown hK hI heh_151 rfl 7 (by decide) (hg _ kf_X6_31) (fun _ h9 => h9) hv_164 dX6_measure_164 ?_
            obtain ⟨fs_167, he_167, hw⟩ := hw
            obtain ⟨mc_167, ms_167, hkc1, hks1, hw⟩ := hw
            refine x_cr (va_runV (As := [.ref v_164]) (rest := [.ref v_156, .ref x0]) ⟨hx, hb, hml, hown, hg⟩ (m_X4_times l G h_151 mc_167 ms_167 v_160 v_164 _ hw H.size) (cwV 1 hg (x_gV km_X6_80 ki_X4_times kz_X4_X4_times kn_X4 kk_X4_times) rfl rfl rfl (by decide +kernel) ⟨Nat.le_of_ble_eq_true rfl, Nat.le_of_ble_eq_true rfl⟩) ⟨x_blind, x_recv hI hK he_167 rfl rfl, x_pre hI hK⟩ rfl rfl hl.1 rfl (lv_room (Nat.le_of_ble_eq_true rfl)) dX6_measure_167 ⟨show 0 + 0 + 0 + mc_56 + mc_61 + mc_72 + mc_80 + mc_89 + mc_92 + 0 + mc_122 + mc_131 + mc_134 + mc_143 + mc_148 + mc_167 ≤ mc by omega, show 0 + 0 + 0 + ms_56 + ms_61 + ms_72 + ms_80 + ms_89 + ms_92 + 0 + ms_122 + ms_131 + ms_134 + ms_143 + ms_148 + ms_167 ≤ ms by omega⟩) hI (fun r_167 h_167 H locs hw hI => ?_)
            obtain ⟨fs_170, he_170, hw⟩ := hw
            obtain ⟨mc_170, ms_170, hkc1, hks1, hw⟩ := hw
            refine x_cr (va_runV (As := [.ref r_167]) (rest := [.ref x0]) ⟨hx, hb, hml, hown, hg⟩ (m_X4_plus l G h_167 mc_170 ms_170 v_156 r_167 _ hw H.size) (cwV 1 hg (x_gV km_X6_84 ki_X4_plus kz_X4_X4_plus kn_X4 kk_X4_plus) rfl rfl rfl (by decide +kernel) ⟨Nat.le_of_ble_eq_true rfl, Nat.le_of_ble_eq_true rfl⟩) ⟨x_blind, x_recv hI hK he_170 rfl rfl, x_pre hI hK⟩ rfl rfl hl.1 rfl (lv_room (Nat.le_of_ble_eq_true rfl)) dX6_measure_170 ⟨show 0 + 0 + 0 + mc_56 + mc_61 + mc_72 + mc_80 + mc_89 + mc_92 + 0 + mc_122 + mc_131 + mc_134 + mc_143 + mc_148 + mc_167 + mc_170 ≤ mc by omega, show 0 + 0 + 0 + ms_56 + ms_61 + ms_72 + ms_80 + ms_89 + ms_92 + 0 + ms_122 + ms_131 + ms_134 + ms_143 + ms_148 + ms_167 + ms_170 ≤ ms by omega⟩) hI (fun r_170 h_170 H locs hw hI => ?_)
            obtain ⟨fs_173, he_173, hw⟩ := hw
            obtain ⟨mc_173, ms_173, hkc1, hks1, hw⟩ := hw
            refine x_cr (va_runV (As := []) (rest := [.ref x0]) ⟨hx, hb, hml, hown, hg⟩ (m_X4_shortened l G h_170 mc_173 ms_173 r_170 _ hw H.size) (cwV 0 hg (x_gV km_X6_104 ki_X4_shortened kz_X4_X4_shortened kn_X4 kk_X4_shortened) rfl rfl rfl (by decide +kernel) ⟨Nat.le_of_ble_eq_true rfl, Nat.le_of_ble_eq_true rfl⟩) ⟨x_blind, x_recv hI hK he_173 rfl rfl, x_pre hI hK⟩ rfl rfl hl.1 rfl (lv_room (Nat.le_of_ble_eq_true rfl)) dX6_measure_173 ⟨show 0 + 0 + 0 + mc_56 + mc_61 + mc_72 + mc_80 + mc_89 + mc_92 + 0 + mc_122 + mc_131 + mc_134 + mc_143 + mc_148 + mc_167 + mc_170 + mc_173 ≤ mc by omega, show 0 + 0 + 0 + ms_56 + ms_61 + ms_72 + ms_80 + ms_89 + ms_92 + 0 + ms_122 + ms_131 + ms_134 + ms_143 + ms_148 + ms_167 + ms_170 + ms_173 ≤ ms by omega⟩) hI (fun r_173 h_173 H locs hw hI => ?_)
            obtain ⟨fs_176, he_176, hw⟩ := hw
            obtain ⟨hlen176, hw⟩ := hw
            refine x_put (ci := 6) (v := .ref r_173) (ty := .object "ExactFilter$Table") (C := RX6) (T := TX6) (N := 10) hx hb hg ku_X6 tyX6 tyX6_ok nmX6 hown hK hI he_176 rfl 5 (by decide) (hg _ kf_X6_24) (fun _ h9 => h9) rfl (by decide +kernel) rfl rfl hlen176 dX6_measure_176 (fun H locs hI => ?_)
            have hI : x_I G (x_A h0 s.heap.size) s.heap (x_up h_173 x0 (.inr (6, (fs_176 : List Value).set 5 (.ref r_173)))) H locs := hI
            obtain ⟨h_176, eh_176⟩ : ∃ z : xH, z = x_up h_173 x0 (.inr (6, (fs_176 : List Value).set 5 (.ref r_173))) := ⟨_, rfl⟩
            rw [← eh_176] at hI
            have hw := hw h_176 eh_176
            have heh_176 : h_176 x0 = some (.inr (6, (fs_176 : List Value).set 5 (.ref r_173))) := by rw [eh_176]; exact x_up_s
            refine lv_aload_n hx hb dX6_measure_179 rfl (lv_at hl 4 rfl) ?_
            refine lv_aload_n hx hb dX6_measure_180 rfl (lv_at hl 4 rfl) ?_
            obtain ⟨v_181, hv_181, hw⟩ := hw
            refine x_get (ci := 6) (C := RX6) (T := TX6) (N := 10) hx hb hg ku_X6 hown hK hI heh_176 rfl 6 (by decide) (hg _ kf_X6_28) (fun _ h9 => h9) hv_181 dX6_measure_181 ?_
            refine lv_aload_n hx hb dX6_measure_184 rfl (lv_at hl 4 rfl) ?_
            obtain ⟨v_185, hv_185, hw⟩ := hw
            refine x_get (ci := 6) (C := RX6) (T := TX6) (N := 10) hx hb hg ku_X6 hown hK hI heh_176 rfl 9 (by decide) (hg _ kf_X6_37) (fun _ h9 => h9) hv_185 dX6_measure_185 ?_
            refine lv_aload hx hb dX6_measure_188 (lv_at hl 1 rfl) ?_
            obtain ⟨fs_190, he_190, hw⟩ := hw
            obtain ⟨mc_190, ms_190, hkc1, hks1, hw⟩ := hw
            refine x_cr (va_runV (As := [.ref r_72]) (rest := [.ref v_181, .ref x0]) ⟨hx, hb, hml, hown, hg⟩ (m_X4_times l G h_176 mc_190 ms_190 v_185 r_72 _ hw H.size) (cwV 1 hg (x_gV km_X6_80 ki_X4_times kz_X4_X4_times kn_X4 kk_X4_times) rfl rfl rfl (by decide +kernel) ⟨Nat.le_of_ble_eq_true rfl, Nat.le_of_ble_eq_true rfl⟩) ⟨x_blind, x_recv hI hK he_190 rfl rfl, x_pre hI hK⟩ rfl rfl hl.1 rfl (lv_room (Nat.le_of_ble_eq_true rfl)) dX6_measure_190 ⟨show 0 + 0 + 0 + mc_56 + mc_61 + mc_72 + mc_80 + mc_89 + mc_92 + 0 + mc_122 + mc_131 + mc_134 + mc_143 + mc_148 + mc_167 + mc_170 + mc_173 + mc_190 ≤ mc by omega, show 0 + 0 + 0 + ms_56 + ms_61 + ms_72 + ms_80 + ms_89 + ms_92 + 0 + ms_122 + ms_131 + ms_134 + ms_143 + ms_148 + ms_167 + ms_170 + ms_173 + ms_190 ≤ ms by omega⟩) hI (fun r_190 h_190 H locs hw hI => ?_)
            obtain ⟨fs_193, he_193, hw⟩ := hw
            obtain ⟨mc_193, ms_193, hkc1, hks1, hw⟩ := hw
            refine x_cr (va_runV (As := [.ref r_190]) (rest := [.ref x0]) ⟨hx, hb, hml, hown, hg⟩ (m_X4_minus l G h_190 mc_193 ms_193 v_181 r_190 _ hw H.size) (cwV 1 hg (x_gV km_X6_98 ki_X4_minus kz_X4_X4_minus kn_X4 kk_X4_minus) rfl rfl rfl (by decide +kernel) ⟨Nat.le_of_ble_eq_true rfl, Nat.le_of_ble_eq_true rfl⟩) ⟨x_blind, x_recv hI hK he_193 rfl rfl, x_pre hI hK⟩ rfl rfl hl.1 rfl (lv_room (Nat.le_of_ble_eq_true rfl)) dX6_measure_193 ⟨show 0 + 0 + 0 + mc_56 + mc_61 + mc_72 + mc_80 + mc_89 + mc_92 + 0 + mc_122 + mc_131 + mc_134 + mc_143 + mc_148 + mc_167 + mc_170 + mc_173 + mc_190 + mc_193 ≤ mc by omega, show 0 + 0 + 0 + ms_56 + ms_61 + ms_72 + ms_80 + ms_89 + ms_92 + 0 + ms_122 + ms_131 + ms_134 + ms_143 + ms_148 + ms_167 + ms_170 + ms_173 + ms_190 + ms_193 ≤ ms by omega⟩) hI (fun r_193 h_193 H locs hw hI => ?_)
            obtain ⟨fs_196, he_196, hw⟩ := hw
            obtain ⟨mc_196, ms_196, hkc1, hks1, hw⟩ := hw
            refine x_cr (va_runV (As := []) (rest := [.ref x0]) ⟨hx, hb, hml, hown, hg⟩ (m_X4_shortened l G h_193 mc_196 ms_196 r_193 _ hw H.size) (cwV 0 hg (x_gV km_X6_104 ki_X4_shortened kz_X4_X4_shortened kn_X4 kk_X4_shortened) rfl rfl rfl (by decide +kernel) ⟨Nat.le_of_ble_eq_true rfl, Nat.le_of_ble_eq_true rfl⟩) ⟨x_blind, x_recv hI hK he_196 rfl rfl, x_pre hI hK⟩ rfl rfl hl.1 rfl (lv_room (Nat.le_of_ble_eq_true rfl)) dX6_measure_196 ⟨show 0 + 0 + 0 + mc_56 + mc_61 + mc_72 + mc_80 + mc_89 + mc_92 + 0 + mc_122 + mc_131 + mc_134 + mc_143 + mc_148 + mc_167 + mc_170 + mc_173 + mc_190 + mc_193 + mc_196 ≤ mc by omega, show 0 + 0 + 0 + ms_56 + ms_61 + ms_72 + ms_80 + ms_89 + ms_92 + 0 + ms_122 + ms_131 + ms_134 + ms_143 + ms_148 + ms_167 + ms_170 + ms_173 + ms_190 + ms_193 + ms_196 ≤ ms by omega⟩) hI (fun r_196 h_196 H locs hw hI => ?_)
            obtain ⟨fs_199, he_199, hw⟩ := hw
            obtain ⟨hlen199, hw⟩ := hw
            refine x_put (ci := 6) (v := .ref r_196) (ty := .object "ExactFilter$Table") (C := RX6) (T := TX6) (N := 10) hx hb hg ku_X6 tyX6 tyX6_ok nmX6 hown hK hI he_199 rfl 6 (by decide) (hg _ kf_X6_28) (fun _ h9 => h9) rfl (by decide +kernel) rfl rfl hlen199 dX6_measure_199 (fun H locs hI => ?_)
            have hI : x_I G (x_A h0 s.heap.size) s.heap (x_up h_196 x0 (.inr (6, (fs_199 : List Value).set 6 (.ref r_196)))) H locs := hI
            obtain ⟨h_199, eh_199⟩ : ∃ z : xH, z = x_up h_196 x0 (.inr (6, (fs_199 : List Value).set 6 (.ref r_196))) := ⟨_, rfl⟩
            rw [← eh_199] at hI
            have hw := hw h_199 eh_199
            have heh_199 : h_199 x0 = some (.inr (6, (fs_199 : List Value).set 6 (.ref r_196))) := by rw [eh_199]; exact x_up_s
            refine lv_aload_n hx hb dX6_measure_202 rfl (lv_at hl 4 rfl) ?_
            refine lv_dup hx hb dX6_measure_203 rfl ?_
            obtain ⟨v_204, hv_204, hw⟩ := hw
            refine x_get (ci := 6) (C := RX6) (T := TX6) (N := 10) hx hb hg ku_X6 hown hK hI heh_199 rfl 4 (by decide) (hg _ kf_X6_51) (fun _ h9 => h9) hv_204 dX6_measure_204 ?_
            refine lv_iconst (v := 1) hx hb dX6_measure_207 (by decide) ?_
            refine lv_iadd hx hb dX6_measure_208 ?_
            obtain ⟨hlen209, hw⟩ := hw
            refine x_put (ci := 6) (v := .int (v_204 + 1)) (ty := .int) (C := RX6) (T := TX6) (N := 10) hx hb hg ku_X6 tyX6 tyX6_ok nmX6 hown hK hI heh_199 rfl 4 (by decide) (hg _ kf_X6_51) (fun _ h9 => h9) rfl (by decide +kernel) rfl rfl hlen209 dX6_measure_209 (fun H locs hI => ?_)
            have hI : x_I G (x_A h0 s.heap.size) s.heap (x_up h_199 x0 (.inr (6, ((fs_199 : List Value).set 6 (.ref r_196) : List Value).set 4 (.int (v_204 + 1))))) H locs := hI
            obtain ⟨h_209, eh_209⟩ : ∃ z : xH, z = x_up h_199 x0 (.inr (6, ((fs_199 : List Value).set 6 (.ref r_196) : List Value).set 4 (.int (v_204 + 1)))) := ⟨_, rfl⟩
            rw [← eh_209] at hI
            have hw := hw h_209 eh_209
            have heh_209 : h_209 x0 = some (.inr (6, ((fs_199 : List Value).set 6 (.ref r_196) : List Value).set 4 (.int (v_204 + 1)))) := by rw [eh_209]; exact x_up_s
            refine lv_aload_n hx hb dX6_measure_212 rfl (lv_at hl 4 rfl) ?_
            obtain ⟨v_213, hv_213, hw⟩ := hw
            refine x_get (ci := 6) (C := RX6) (T := TX6) (N := 10) hx hb hg ku_X6 hown hK hI heh_209 rfl 4 (by decide) (hg _ kf_X6_51) (fun _ h9 => h9) hv_213 dX6_measure_213 ?_
            exact vx_ret (x_iret hx hb hr hlocks hI hw (by omega) (by omega) dX6_measure_216)
          · have hw := hw.2 hc102
            obtain ⟨hkc1, hks1, hw⟩ := hw
            exact x_thr hx hb hst hown (by decide +kernel) (hg _ (at_links _ (by decide +kernel))) (hg _ (at_links _ (by decide +kernel))) (x_at hg hZ.2.2 at_97a at_97b) at_97c hZ hI (by rw [hml]; exact hl.1) dX6_measure_105 dX6_measure_108 dX6_measure_109 dX6_measure_112 hno (Nat.le_of_ble_eq_true rfl) (Nat.le_of_ble_eq_true rfl) (show 0 + 0 + 0 + mc_56 + mc_61 + mc_72 + mc_80 + mc_89 + mc_92 + 0 + 1 ≤ mc by omega) (show 0 + 0 + 0 + ms_56 + ms_61 + ms_72 + ms_80 + ms_89 + ms_92 + 0 + 6 ≤ ms by omega) hlocks hw (show 0 + 0 + 0 + mc_56 + mc_61 + mc_72 + mc_80 + mc_89 + mc_92 + 0 + 1 ≤ mc by omega) (show 0 + 0 + 0 + ms_56 + ms_61 + ms_72 + ms_80 + ms_89 + ms_92 + 0 + 6 ≤ ms by omega)
        · have hw := hw.2 hc40
          exact mj_X6_measure_43 C mc ms post postx  _ _ _ _ _ _ _ _ hw hI (by omega) (by omega) (lv_sub hl [] rfl)
  · have hw := hw.2 hc5
    obtain ⟨hkc1, hks1, hw⟩ := hw
    exact x_thr hx hb hst hown (by decide +kernel) (hg _ (at_links _ (by decide +kernel))) (hg _ (at_links _ (by decide +kernel))) (x_at hg hZ.2.2 at_42a at_42b) at_42c hZ hI (by rw [hml]; exact hl.1) dX6_measure_8 dX6_measure_11 dX6_measure_12 dX6_measure_15 hno (Nat.le_of_ble_eq_true rfl) (Nat.le_of_ble_eq_true rfl) (show 0 + 0 + 1 ≤ mc by omega) (show 0 + 0 + 6 ≤ ms by omega) hlocks hw (show 0 + 0 + 1 ≤ mc by omega) (show 0 + 0 + 6 ≤ ms by omega)
-- ===== ExactFilter.number
abbrev rX6_number (mc ms : Nat) : Room := { frames := 6, cells := mc, slots := ms, locals := 81 }
set_option maxRecDepth 100000 in
def wj_X6_number_36  (post : Nat → xH → Prop) (postx : String → xH → Prop)  (h : xH) (kc : Nat) (ks : Nat) : Prop := 1 ≤ kc ∧ 6 ≤ ks ∧ postx EIS h
set_option maxRecDepth 100000 in
def wj_X6_number_66  (post : Nat → xH → Prop) (postx : String → xH → Prop)  (h : xH) (kc : Nat) (ks : Nat) : Prop := 1 ≤ kc ∧ 6 ≤ ks ∧ postx EIA h
set_option maxRecDepth 100000 in
def wj_X6_number_44  (post : Nat → xH → Prop) (postx : String → xH → Prop)  (h : xH) (kc : Nat) (ks : Nat) (x0 : Nat) (x1 : Int32) (x2 : Int32) (x3 : Int32) : Prop := (x1 < 0 → wj_X6_number_66  post postx  h kc ks) ∧ (¬ x1 < 0 → (4 < x1 → wj_X6_number_66  post postx  h kc ks) ∧ (¬ 4 < x1 → ∃ fs_55 : List Value, h x0 = some (.inr (6, fs_55)) ∧ wp_X6_tableOf h  x0 x1 (fun (r_55 : Nat) => ∃ fs_60 : List Value, h r_55 = some (.inr (4, fs_60)) ∧ wp_X4_has h  r_55 x2 x3 (fun (r_60 : Int32) => (¬ r_60 = 0 → wp_X6_tableOf h  x0 x1 (fun (r_76 : Nat) => ∃ fs_81 : List Value, h r_76 = some (.inr (4, fs_81)) ∧ ∃ mc_81 ms_81 : Nat, mc_81 ≤ kc ∧ ms_81 ≤ ks ∧ wp_X4_number h mc_81 ms_81 r_76 x2 x3 (fun (r_81 : Nat) (h_81 : xH) => post r_81 h_81))) ∧ (r_60 = 0 → wj_X6_number_66  post postx  h kc ks)))))
set_option maxRecDepth 100000 in
def wj_X6_number_15  (post : Nat → xH → Prop) (postx : String → xH → Prop)  (h : xH) (kc : Nat) (ks : Nat) (x0 : Nat) (x1 : Int32) (x2 : Int32) (x3 : Int32) (s0 : Int32) : Prop := ∃ fs_18 : List Value, h x0 = some (.inr (6, fs_18)) ∧ ∃ v_18 : Int32, fs_18[2]? = some (.int v_18) ∧ (v_18 = 0 → wj_X6_number_36  post postx  h kc ks) ∧ (¬ v_18 = 0 → (s0 = 0 → wj_X6_number_44  post postx  h kc ks x0 x1 x2 x3) ∧ (¬ s0 = 0 → ∃ v_30 : Int32, fs_18[4]? = some (.int v_30) ∧ (¬ v_30 = 0 → wj_X6_number_44  post postx  h kc ks x0 x1 x2 x3) ∧ (v_30 = 0 → wj_X6_number_36  post postx  h kc ks)))
set_option maxRecDepth 100000 in
def wj_X6_number_14  (post : Nat → xH → Prop) (postx : String → xH → Prop)  (h : xH) (kc : Nat) (ks : Nat) (x0 : Nat) (x1 : Int32) (x2 : Int32) (x3 : Int32) : Prop := wj_X6_number_15  post postx  h kc ks x0 x1 x2 x3 0
set_option maxRecDepth 100000 in
def wp_X6_number (h0 : xH) (mc ms : Nat) (x0 : Nat) (x1 : Int32) (x2 : Int32) (x3 : Int32) (post : Nat → xH → Prop) (postx : String → xH → Prop) : Prop := (x1 < 2 → wj_X6_number_14  post postx  h0 mc ms x0 x1 x2 x3) ∧ (¬ x1 < 2 → (4 < x1 → wj_X6_number_14  post postx  h0 mc ms x0 x1 x2 x3) ∧ (¬ 4 < x1 → wj_X6_number_15  post postx  h0 mc ms x0 x1 x2 x3 1))
set_option maxHeartbeats 4000000 in
set_option maxRecDepth 100000 in
theorem mj_X6_number_36 {h0 : xH} (C : CXT p l s m args meth c G RX6 cX6_number 5 (some (.object "ExactFilter$Fraction")) h0) (mc ms : Nat) (post : Nat → xH → Prop) (postx : String → xH → Prop) 
    
    (h : xH) (kc : Nat) (ks : Nat) (H : Heap) (locs : List Loc) (ls : Array Slot) (nc ns : Nat) (hw : wj_X6_number_36  post postx  h kc ks) (hI : x_I G (x_A h0 s.heap.size) s.heap h H locs) (hkc : nc + kc ≤ mc) (hks : ns + ks ≤ ms) (hl : lv_has ls 5 []) : W p l e (rX6_number mc ms) s m args below meth c H locs nc ns (vx_MQ below (x_Qr G h0 s.heap.size post) (x_X G h0 s.heap.size postx) args s mc ms (x_A h0 s.heap.size)) (F0 m 36 ls []) := by
  obtain ⟨⟨hx, hb, hr, hml, hown, hg, hlocks, hK⟩, hno, hZ, hst⟩ := id C
  unfold wj_X6_number_36 at hw
  obtain ⟨hkc1, hks1, hw⟩ := hw
  exact x_thr hx hb hst hown (by decide +kernel) (hg _ (at_links _ (by decide +kernel))) (hg _ (at_links _ (by decide +kernel))) (x_at hg hZ.2.2 at_75a at_75b) at_75c hZ hI (by rw [hml]; exact hl.1) dX6_number_36 dX6_number_39 dX6_number_40 dX6_number_43 hno (Nat.le_of_ble_eq_true rfl) (Nat.le_of_ble_eq_true rfl) (show nc + 1 ≤ mc by omega) (show ns + 6 ≤ ms by omega) hlocks hw (show nc + 1 ≤ mc by omega) (show ns + 6 ≤ ms by omega)
set_option maxHeartbeats 4000000 in
set_option maxRecDepth 100000 in
theorem mj_X6_number_66 {h0 : xH} (C : CXT p l s m args meth c G RX6 cX6_number 5 (some (.object "ExactFilter$Fraction")) h0) (mc ms : Nat) (post : Nat → xH → Prop) (postx : String → xH → Prop) 
    
    (h : xH) (kc : Nat) (ks : Nat) (H : Heap) (locs : List Loc) (ls : Array Slot) (nc ns : Nat) (hw : wj_X6_number_66  post postx  h kc ks) (hI : x_I G (x_A h0 s.heap.size) s.heap h H locs) (hkc : nc + kc ≤ mc) (hks : ns + ks ≤ ms) (hl : lv_has ls 5 []) : W p l e (rX6_number mc ms) s m args below meth c H locs nc ns (vx_MQ below (x_Qr G h0 s.heap.size post) (x_X G h0 s.heap.size postx) args s mc ms (x_A h0 s.heap.size)) (F0 m 66 ls []) := by
  obtain ⟨⟨hx, hb, hr, hml, hown, hg, hlocks, hK⟩, hno, hZ, hst⟩ := id C
  unfold wj_X6_number_66 at hw
  obtain ⟨hkc1, hks1, hw⟩ := hw
  exact x_thr hx hb hst hown (by decide +kernel) (hg _ (at_links _ (by decide +kernel))) (hg _ (at_links _ (by decide +kernel))) (x_at hg hZ.2.2 at_42a at_42b) at_42c hZ hI (by rw [hml]; exact hl.1) dX6_number_66 dX6_number_69 dX6_number_70 dX6_number_73 hno (Nat.le_of_ble_eq_true rfl) (Nat.le_of_ble_eq_true rfl) (show nc + 1 ≤ mc by omega) (show ns + 6 ≤ ms by omega) hlocks hw (show nc + 1 ≤ mc by omega) (show ns + 6 ≤ ms by omega)
set_option maxHeartbeats 4000000 in
set_option maxRecDepth 100000 in
theorem mj_X6_number_44 {h0 : xH} (C : CXT p l s m args meth c G RX6 cX6_number 5 (some (.object "ExactFilter$Fraction")) h0) (mc ms : Nat) (post : Nat → xH → Prop) (postx : String → xH → Prop) 
    
    (h : xH) (kc : Nat) (ks : Nat) (x0 : Nat) (x1 : Int32) (x2 : Int32) (x3 : Int32) (H : Heap) (locs : List Loc) (ls : Array Slot) (nc ns : Nat) (hw : wj_X6_number_44  post postx  h kc ks x0 x1 x2 x3) (hI : x_I G (x_A h0 s.heap.size) s.heap h H locs) (hkc : nc + kc ≤ mc) (hks : ns + ks ≤ ms) (hl : lv_has ls 5 [(0, .ref x0), (1, .int x1), (2, .int x2), (3, .int x3)]) : W p l e (rX6_number mc ms) s m args below meth c H locs nc ns (vx_MQ below (x_Qr G h0 s.heap.size post) (x_X G h0 s.heap.size postx) args s mc ms (x_A h0 s.heap.size)) (F0 m 44 ls []) := by
  obtain ⟨⟨hx, hb, hr, hml, hown, hg, hlocks, hK⟩, hno, hZ, hst⟩ := id C
  unfold wj_X6_number_44 at hw
  refine lv_iload_n hx hb dX6_number_44 rfl (lv_at hl 1 rfl) ?_
  refine lv_if_lt (tgt := 66) hx hb dX6_number_45 (by decide) (fun hc45 => ?_) (fun hc45 => ?_)
  · have hw := hw.1 hc45
    exact mj_X6_number_66 C mc ms post postx  _ _ _ _ _ _ _ _ hw hI (by omega) (by omega) (lv_sub hl [] rfl)
  · have hw := hw.2 hc45
    refine lv_iload_n hx hb dX6_number_48 rfl (lv_at hl 1 rfl) ?_
    refine lv_iconst (v := 4) hx hb dX6_number_49 (by decide) ?_
    refine lv_icmp_gt (tgt := 66) hx hb dX6_number_50 (by decide) (fun hc50 => ?_) (fun hc50 => ?_)
    · have hw := hw.1 hc50
      exact mj_X6_number_66 C mc ms post postx  _ _ _ _ _ _ _ _ hw hI (by omega) (by omega) (lv_sub hl [] rfl)
    · have hw := hw.2 hc50
      refine lv_aload_n hx hb dX6_number_53 rfl (lv_at hl 0 rfl) ?_
      refine lv_iload_n hx hb dX6_number_54 rfl (lv_at hl 1 rfl) ?_
      obtain ⟨fs_55, he_55, hw⟩ := hw
      refine x_cr (va_runV (As := [.int x1]) (rest := []) ⟨hx, hb, hml, hown, hg⟩ (m_X6_tableOf l G h  x0 x1 _ hw H.size) (cwV 1 hg (x_gV km_X6_142 ki_X6_tableOf kz_X6_X6_tableOf kn_X6 kk_X6_tableOf) rfl rfl rfl (by decide +kernel) ⟨Nat.le_of_ble_eq_true rfl, Nat.le_of_ble_eq_true rfl⟩) ⟨x_blind, x_recv hI hK he_55 rfl rfl, x_pre hI hK⟩ rfl rfl hl.1 rfl (lv_room (Nat.le_of_ble_eq_true rfl)) dX6_number_55 ⟨show nc + 0 ≤ mc by omega, show ns + 0 ≤ ms by omega⟩) hI (fun r_55 h_55 H locs hw hI => ?_)
      obtain ⟨eh_55, hw⟩ := hw
      rw [eh_55] at hI
      refine lv_iload_n hx hb dX6_number_58 rfl (lv_at hl 2 rfl) ?_
      refine lv_iload_n hx hb dX6_number_59 rfl (lv_at hl 3 rfl) ?_
      obtain ⟨fs_60, he_60, hw⟩ := hw
      refine x_ci (va_runV (As := [.int x2, .int x3]) (rest := []) ⟨hx, hb, hml, hown, hg⟩ (m_X4_has l G h  r_55 x2 x3 _ hw H.size) (cwV 2 hg (x_gV km_X6_145 ki_X4_has kz_X4_X4_has kn_X4 kk_X4_has) rfl rfl rfl (by decide +kernel) ⟨Nat.le_of_ble_eq_true rfl, Nat.le_of_ble_eq_true rfl⟩) ⟨x_blind, x_recv hI hK he_60 rfl rfl, x_pre hI hK⟩ rfl rfl hl.1 rfl (lv_room (Nat.le_of_ble_eq_true rfl)) dX6_number_60 ⟨show nc + 0 + 0 ≤ mc by omega, show ns + 0 + 0 ≤ ms by omega⟩) hI (fun r_60 h_60 H locs hw hI => ?_)
      obtain ⟨eh_60, hw⟩ := hw
      rw [eh_60] at hI
      refine lv_if_ne (tgt := 74) hx hb dX6_number_63 (by decide) (fun hc63 => ?_) (fun hc63 => ?_)
      · have hw := hw.1 hc63
        refine lv_aload_n hx hb dX6_number_74 rfl (lv_at hl 0 rfl) ?_
        refine lv_iload_n hx hb dX6_number_75 rfl (lv_at hl 1 rfl) ?_
        refine x_cr (va_runV (As := [.int x1]) (rest := []) ⟨hx, hb, hml, hown, hg⟩ (m_X6_tableOf l G h  x0 x1 _ hw H.size) (cwV 1 hg (x_gV km_X6_142 ki_X6_tableOf kz_X6_X6_tableOf kn_X6 kk_X6_tableOf) rfl rfl rfl (by decide +kernel) ⟨Nat.le_of_ble_eq_true rfl, Nat.le_of_ble_eq_true rfl⟩) ⟨x_blind, x_recv hI hK he_55 rfl rfl, x_pre hI hK⟩ rfl rfl hl.1 rfl (lv_room (Nat.le_of_ble_eq_true rfl)) dX6_number_76 ⟨show nc + 0 + 0 + 0 ≤ mc by omega, show ns + 0 + 0 + 0 ≤ ms by omega⟩) hI (fun r_76 h_76 H locs hw hI => ?_)
        obtain ⟨eh_76, hw⟩ := hw
        rw [eh_76] at hI
        refine lv_iload_n hx hb dX6_number_79 rfl (lv_at hl 2 rfl) ?_
        refine lv_iload_n hx hb dX6_number_80 rfl (lv_at hl 3 rfl) ?_
        obtain ⟨fs_81, he_81, hw⟩ := hw
        obtain ⟨mc_81, ms_81, hkc1, hks1, hw⟩ := hw
        refine x_cr (va_runV (As := [.int x2, .int x3]) (rest := []) ⟨hx, hb, hml, hown, hg⟩ (m_X4_number l G h mc_81 ms_81 r_76 x2 x3 _ hw H.size) (cwV 2 hg (x_gV km_X6_147 ki_X4_number kz_X4_X4_number kn_X4 kk_X4_number) rfl rfl rfl (by decide +kernel) ⟨Nat.le_of_ble_eq_true rfl, Nat.le_of_ble_eq_true rfl⟩) ⟨x_blind, x_recv hI hK he_81 rfl rfl, x_pre hI hK⟩ rfl rfl hl.1 rfl (lv_room (Nat.le_of_ble_eq_true rfl)) dX6_number_81 ⟨show nc + 0 + 0 + 0 + mc_81 ≤ mc by omega, show ns + 0 + 0 + 0 + ms_81 ≤ ms by omega⟩) hI (fun r_81 h_81 H locs hw hI => ?_)
        exact vx_ret (x_aret hx hb hr (by first | exact Or.inl ⟨_, rfl⟩ | exact Or.inr ⟨_, rfl⟩) hlocks hI hw (by omega) (by omega) dX6_number_84)
      · have hw := hw.2 hc63
        exact mj_X6_number_66 C mc ms post postx  _ _ _ _ _ _ _ _ hw hI (by omega) (by omega) (lv_sub hl [] rfl)
set_option maxHeartbeats 4000000 in
set_option maxRecDepth 100000 in
theorem mj_X6_number_15 {h0 : xH} (C : CXT p l s m args meth c G RX6 cX6_number 5 (some (.object "ExactFilter$Fraction")) h0) (mc ms : Nat) (post : Nat → xH → Prop) (postx : String → xH → Prop) 
    
    (h : xH) (kc : Nat) (ks : Nat) (x0 : Nat) (x1 : Int32) (x2 : Int32) (x3 : Int32) (s0 : Int32) (H : Heap) (locs : List Loc) (ls : Array Slot) (nc ns : Nat) (hw : wj_X6_number_15  post postx  h kc ks x0 x1 x2 x3 s0) (hI : x_I G (x_A h0 s.heap.size) s.heap h H locs) (hkc : nc + kc ≤ mc) (hks : ns + ks ≤ ms) (hl : lv_has ls 5 [(0, .ref x0), (1, .int x1), (2, .int x2), (3, .int x3)]) : W p l e (rX6_number mc ms) s m args below meth c H locs nc ns (vx_MQ below (x_Qr G h0 s.heap.size post) (x_X G h0 s.heap.size postx) args s mc ms (x_A h0 s.heap.size)) (F0 m 15 ls [.int s0]) := by
  obtain ⟨⟨hx, hb, hr, hml, hown, hg, hlocks, hK⟩, hno, hZ, hst⟩ := id C
  unfold wj_X6_number_15 at hw
  refine lv_istore (lv' := [(4, .int s0), (0, .ref x0), (1, .int x1), (2, .int x2), (3, .int x3)]) hx hb dX6_number_15 hl (by decide) rfl (fun ls hl => ?_)
  refine lv_aload_n hx hb dX6_number_17 rfl (lv_at hl 1 rfl) ?_
  obtain ⟨fs_18, he_18, hw⟩ := hw
  obtain ⟨v_18, hv_18, hw⟩ := hw
  refine x_get (ci := 6) (C := RX6) (T := TX6) (N := 10) hx hb hg ku_X6 hown hK hI he_18 rfl 2 (by decide) (hg _ kf_X6_43) (fun _ h9 => h9) hv_18 dX6_number_18 ?_
  refine lv_if_eq (tgt := 36) hx hb dX6_number_21 (by decide) (fun hc21 => ?_) (fun hc21 => ?_)
  · have hw := hw.1 hc21
    exact mj_X6_number_36 C mc ms post postx  _ _ _ _ _ _ _ _ hw hI (by omega) (by omega) (lv_sub hl [] rfl)
  · have hw := hw.2 hc21
    refine lv_iload hx hb dX6_number_24 (lv_at hl 0 rfl) ?_
    refine lv_if_eq (tgt := 44) hx hb dX6_number_26 (by decide) (fun hc26 => ?_) (fun hc26 => ?_)
    · have hw := hw.1 hc26
      exact mj_X6_number_44 C mc ms post postx  _ _ _ _ _ _ _ _ _ _ _ _ hw hI (by omega) (by omega) (lv_sub hl [1, 2, 3, 4] rfl)
    · have hw := hw.2 hc26
      refine lv_aload_n hx hb dX6_number_29 rfl (lv_at hl 1 rfl) ?_
      obtain ⟨v_30, hv_30, hw⟩ := hw
      refine x_get (ci := 6) (C := RX6) (T := TX6) (N := 10) hx hb hg ku_X6 hown hK hI he_18 rfl 4 (by decide) (hg _ kf_X6_51) (fun _ h9 => h9) hv_30 dX6_number_30 ?_
      refine lv_if_ne (tgt := 44) hx hb dX6_number_33 (by decide) (fun hc33 => ?_) (fun hc33 => ?_)
      · have hw := hw.1 hc33
        exact mj_X6_number_44 C mc ms post postx  _ _ _ _ _ _ _ _ _ _ _ _ hw hI (by omega) (by omega) (lv_sub hl [1, 2, 3, 4] rfl)
      · have hw := hw.2 hc33
        exact mj_X6_number_36 C mc ms post postx  _ _ _ _ _ _ _ _ hw hI (by omega) (by omega) (lv_sub hl [] rfl)
set_option maxHeartbeats 4000000 in
set_option maxRecDepth 100000 in
theorem mj_X6_number_14 {h0 : xH} (C : CXT p l s m args meth c G RX6 cX6_number 5 (some (.object "ExactFilter$Fraction")) h0) (mc ms : Nat) (post : Nat → xH → Prop) (postx : String → xH → Prop) 
    
    (h : xH) (kc : Nat) (ks : Nat) (x0 : Nat) (x1 : Int32) (x2 : Int32) (x3 : Int32) (H : Heap) (locs : List Loc) (ls : Array Slot) (nc ns : Nat) (hw : wj_X6_number_14  post postx  h kc ks x0 x1 x2 x3) (hI : x_I G (x_A h0 s.heap.size) s.heap h H locs) (hkc : nc + kc ≤ mc) (hks : ns + ks ≤ ms) (hl : lv_has ls 5 [(0, .ref x0), (1, .int x1), (2, .int x2), (3, .int x3)]) : W p l e (rX6_number mc ms) s m args below meth c H locs nc ns (vx_MQ below (x_Qr G h0 s.heap.size post) (x_X G h0 s.heap.size postx) args s mc ms (x_A h0 s.heap.size)) (F0 m 14 ls []) := by
  obtain ⟨⟨hx, hb, hr, hml, hown, hg, hlocks, hK⟩, hno, hZ, hst⟩ := id C
  unfold wj_X6_number_14 at hw
  refine lv_iconst (v := 0) hx hb dX6_number_14 (by decide) ?_
  exact mj_X6_number_15 C mc ms post postx  _ _ _ _ _ _ _ _ _ _ _ _ _ hw hI (by omega) (by omega) (lv_sub hl [0, 1, 2, 3] rfl)
set_option maxHeartbeats 4000000 in
set_option maxRecDepth 100000 in
theorem m_X6_number (l : Launch) (hst : l.stackTraces = false) (G : xG) (h0 : xH) (mc ms : Nat) (x0 : Nat) (x1 : Int32) (x2 : Int32) (x3 : Int32) (post : Nat → xH → Prop) (postx : String → xH → Prop) (hw : wp_X6_number h0 mc ms x0 x1 x2 x3 post postx) (sz : Nat) : vx_Met l yX6_number (wu yX6_number cX6_number 5 (some (.object "ExactFilter$Fraction"))) (rX6_number mc ms) (x_Px G [.ref x0, .int x1, .int x2, .int x3] h0 sz) (x_Qr G h0 sz post) (x_X G h0 sz postx) mc ms (x_A h0 sz) := by
  refine vx_ofW (cc := cX6_number) (maxL := 5) (ret := (some (.object "ExactFilter$Fraction"))) (by decide) rfl ?_
  intro p e s m args below meth c s₁ B hml hno hv
  obtain ⟨rfl, hsz, hR, hK, hZ⟩ := hv
  subst hsz
  have C : CXT p l s m _ meth c G RX6 cX6_number 5 (some (.object "ExactFilter$Fraction")) h0 := ⟨⟨B.exec, B.bytes, B.returns, hml, findClass_of_methodNamed B.named, x_hg (atoms_spec (ws := wu yX6_number cX6_number 5 (some (.object "ExactFilter$Fraction"))) B.pre), B.notSynchronized, hK⟩, hno, hZ, hst⟩
  obtain ⟨⟨hx, hb, hr, hml, hown, hg, hlocks, hK⟩, hno, hZ, hst⟩ := id C
  have hI : x_I G (x_A h0 s.heap.size) s.heap h0 s.heap [] := x_I.start hR
  have hkc : 0 + mc ≤ mc := by omega
  have hks : 0 + ms ≤ ms := by omega
  have hl := lv_entry ([.ref x0, .int x1, .int x2, .int x3]) (n := 5) (Nat.le_of_ble_eq_true rfl)
  rw [lg_entry_eq]
  generalize (lg_sl ([.ref x0, .int x1, .int x2, .int x3]) ++ List.replicate (5 - (lg_sl ([.ref x0, .int x1, .int x2, .int x3])).length) Slot.unset).toArray = ls at hl ⊢
  have hl : lv_has ls 5 [(0, .ref x0), (1, .int x1), (2, .int x2), (3, .int x3)] := hl
  unfold wp_X6_number at hw
  refine lv_iload_n hx hb dX6_number_0 rfl (lv_at hl 1 rfl) ?_
  refine lv_iconst (v := 2) hx hb dX6_number_1 (by decide) ?_
  refine lv_icmp_lt (tgt := 14) hx hb dX6_number_2 (by decide) (fun hc2 => ?_) (fun hc2 => ?_)
  · have hw := hw.1 hc2
    exact mj_X6_number_14 C mc ms post postx  _ _ _ _ _ _ _ _ _ _ _ _ hw hI (by omega) (by omega) (lv_sub hl [0, 1, 2, 3] rfl)
  · have hw := hw.2 hc2
    refine lv_iload_n hx hb dX6_number_5 rfl (lv_at hl 1 rfl) ?_
    refine lv_iconst (v := 4) hx hb dX6_number_6 (by decide) ?_
    refine lv_icmp_gt (tgt := 14) hx hb dX6_number_7 (by decide) (fun hc7 => ?_) (fun hc7 => ?_)
    · have hw := hw.1 hc7
      exact mj_X6_number_14 C mc ms post postx  _ _ _ _ _ _ _ _ _ _ _ _ hw hI (by omega) (by omega) (lv_sub hl [0, 1, 2, 3] rfl)
    · have hw := hw.2 hc7
      refine lv_iconst (v := 1) hx hb dX6_number_10 (by decide) ?_
      refine lv_goto (tgt := 15) hx hb dX6_number_11 (by decide) ?_
      exact mj_X6_number_15 C mc ms post postx  _ _ _ _ _ _ _ _ _ _ _ _ _ hw hI (by omega) (by omega) (lv_sub hl [0, 1, 2, 3] rfl)
-- ===== ExactFilter.wholeOf
abbrev rX6_wholeOf (mc ms : Nat) : Room := { frames := 7, cells := mc, slots := ms, locals := 170 }
set_option maxRecDepth 100000 in
def wj_X6_wholeOf_51  (post : Nat → xH → Prop) (postx : String → xH → Prop)  (h : xH) (kc : Nat) (ks : Nat) (s0 : Nat) : Prop := post s0 h
set_option maxRecDepth 100000 in
def wj_X6_wholeOf_28  (post : Nat → xH → Prop) (postx : String → xH → Prop)  (h : xH) (kc : Nat) (ks : Nat) (x4 : Int32) (x5 : Nat) : Prop := ∃ fs_30 : List Value, h x5 = some (.inr (0, fs_30)) ∧ ∃ mc_30 ms_30 : Nat, mc_30 ≤ kc ∧ ms_30 ≤ ks ∧ wp_X0_bringToLowestTerms h mc_30 ms_30 x5 (fun (h_30 : xH) => (¬ x4 = 0 → ∃ fs_48 : List Value, h_30 x5 = some (.inr (0, fs_48)) ∧ wp_X0_below h_30  x5 (fun (r_48 : Nat) => wj_X6_wholeOf_51  post postx  h_30 (kc - mc_30) (ks - ms_30) r_48)) ∧ (x4 = 0 → ∃ fs_40 : List Value, h_30 x5 = some (.inr (0, fs_40)) ∧ wp_X0_above h_30  x5 (fun (r_40 : Nat) => wj_X6_wholeOf_51  post postx  h_30 (kc - mc_30) (ks - ms_30) r_40)))
set_option maxRecDepth 100000 in
def wp_X6_wholeOf (h0 : xH) (mc ms : Nat) (x0 : Nat) (x1 : Int32) (x2 : Int32) (x3 : Int32) (x4 : Int32) (post : Nat → xH → Prop) (postx : String → xH → Prop) : Prop := ∃ fs_4 : List Value, h0 x0 = some (.inr (6, fs_4)) ∧ ∃ mc_4 ms_4 : Nat, mc_4 ≤ mc ∧ ms_4 ≤ ms ∧ wp_X6_number h0 mc_4 ms_4 x0 x1 x2 x3 (fun (r_4 : Nat) (h_4 : xH) => (x4 = 0 → wj_X6_wholeOf_28  post postx  h_4 (mc - mc_4) (ms - ms_4) x4 r_4) ∧ (¬ x4 = 0 → (x4 = 1 → wj_X6_wholeOf_28  post postx  h_4 (mc - mc_4) (ms - ms_4) x4 r_4) ∧ (¬ x4 = 1 → 1 ≤ (mc - mc_4) ∧ 6 ≤ (ms - ms_4) ∧ postx EIA h_4))) postx
set_option maxHeartbeats 4000000 in
set_option maxRecDepth 100000 in
theorem mj_X6_wholeOf_51 {h0 : xH} (C : CXT p l s m args meth c G RX6 cX6_wholeOf 6 (some (.object "ExactFilter$Whole")) h0) (mc ms : Nat) (post : Nat → xH → Prop) (postx : String → xH → Prop) 
    
    (h : xH) (kc : Nat) (ks : Nat) (s0 : Nat) (H : Heap) (locs : List Loc) (ls : Array Slot) (nc ns : Nat) (hw : wj_X6_wholeOf_51  post postx  h kc ks s0) (hI : x_I G (x_A h0 s.heap.size) s.heap h H locs) (hkc : nc + kc ≤ mc) (hks : ns + ks ≤ ms) (hl : lv_has ls 6 []) : W p l e (rX6_wholeOf mc ms) s m args below meth c H locs nc ns (vx_MQ below (x_Qr G h0 s.heap.size post) (x_X G h0 s.heap.size postx) args s mc ms (x_A h0 s.heap.size)) (F0 m 51 ls [.ref s0]) := by
  obtain ⟨⟨hx, hb, hr, hml, hown, hg, hlocks, hK⟩, hno, hZ, hst⟩ := id C
  unfold wj_X6_wholeOf_51 at hw
  exact vx_ret (x_aret hx hb hr (by first | exact Or.inl ⟨_, rfl⟩ | exact Or.inr ⟨_, rfl⟩) hlocks hI hw (by omega) (by omega) dX6_wholeOf_51)
set_option maxHeartbeats 4000000 in
set_option maxRecDepth 100000 in
theorem mj_X6_wholeOf_28 {h0 : xH} (C : CXT p l s m args meth c G RX6 cX6_wholeOf 6 (some (.object "ExactFilter$Whole")) h0) (mc ms : Nat) (post : Nat → xH → Prop) (postx : String → xH → Prop) 
    
    (h : xH) (kc : Nat) (ks : Nat) (x4 : Int32) (x5 : Nat) (H : Heap) (locs : List Loc) (ls : Array Slot) (nc ns : Nat) (hw : wj_X6_wholeOf_28  post postx  h kc ks x4 x5) (hI : x_I G (x_A h0 s.heap.size) s.heap h H locs) (hkc : nc + kc ≤ mc) (hks : ns + ks ≤ ms) (hl : lv_has ls 6 [(4, .int x4), (5, .ref x5)]) : W p l e (rX6_wholeOf mc ms) s m args below meth c H locs nc ns (vx_MQ below (x_Qr G h0 s.heap.size post) (x_X G h0 s.heap.size postx) args s mc ms (x_A h0 s.heap.size)) (F0 m 28 ls []) := by
  obtain ⟨⟨hx, hb, hr, hml, hown, hg, hlocks, hK⟩, hno, hZ, hst⟩ := id C
  unfold wj_X6_wholeOf_28 at hw
  refine lv_aload hx hb dX6_wholeOf_28 (lv_at hl 1 rfl) ?_
  obtain ⟨fs_30, he_30, hw⟩ := hw
  obtain ⟨mc_30, ms_30, hkc1, hks1, hw⟩ := hw
  refine x_cv (va_runV (As := []) (rest := []) ⟨hx, hb, hml, hown, hg⟩ (m_X0_bringToLowestTerms l G h mc_30 ms_30 x5 _ hw H.size) (cwV 0 hg (x_gV km_X6_150 ki_X0_bringToLowestTerms kz_X0_X0_bringToLowestTerms kn_X0 kk_X0_bringToLowestTerms) rfl rfl rfl (by decide +kernel) ⟨Nat.le_of_ble_eq_true rfl, Nat.le_of_ble_eq_true rfl⟩) ⟨x_blind, x_recv hI hK he_30 rfl rfl, x_pre hI hK⟩ rfl rfl hl.1 rfl (lv_room (Nat.le_of_ble_eq_true rfl)) dX6_wholeOf_30 ⟨show nc + mc_30 ≤ mc by omega, show ns + ms_30 ≤ ms by omega⟩) hI (fun h_30 H locs hw hI => ?_)
  refine lv_iload hx hb dX6_wholeOf_33 (lv_at hl 0 rfl) ?_
  refine lv_if_ne (tgt := 46) hx hb dX6_wholeOf_35 (by decide) (fun hc35 => ?_) (fun hc35 => ?_)
  · have hw := hw.1 hc35
    refine lv_aload hx hb dX6_wholeOf_46 (lv_at hl 1 rfl) ?_
    obtain ⟨fs_48, he_48, hw⟩ := hw
    refine x_cr (va_runV (As := []) (rest := []) ⟨hx, hb, hml, hown, hg⟩ (m_X0_below l G h_30  x5 _ hw H.size) (cwV 0 hg (x_gV km_X6_157 ki_X0_below kz_X0_X0_below kn_X0 kk_X0_below) rfl rfl rfl (by decide +kernel) ⟨Nat.le_of_ble_eq_true rfl, Nat.le_of_ble_eq_true rfl⟩) ⟨x_blind, x_recv hI hK he_48 rfl rfl, x_pre hI hK⟩ rfl rfl hl.1 rfl (lv_room (Nat.le_of_ble_eq_true rfl)) dX6_wholeOf_48 ⟨show nc + mc_30 + 0 ≤ mc by omega, show ns + ms_30 + 0 ≤ ms by omega⟩) hI (fun r_48 h_48 H locs hw hI => ?_)
    obtain ⟨eh_48, hw⟩ := hw
    rw [eh_48] at hI
    exact mj_X6_wholeOf_51 C mc ms post postx  _ _ _ _ _ _ _ _ _ hw hI (by omega) (by omega) (lv_sub hl [] rfl)
  · have hw := hw.2 hc35
    refine lv_aload hx hb dX6_wholeOf_38 (lv_at hl 1 rfl) ?_
    obtain ⟨fs_40, he_40, hw⟩ := hw
    refine x_cr (va_runV (As := []) (rest := []) ⟨hx, hb, hml, hown, hg⟩ (m_X0_above l G h_30  x5 _ hw H.size) (cwV 0 hg (x_gV km_X6_153 ki_X0_above kz_X0_X0_above kn_X0 kk_X0_above) rfl rfl rfl (by decide +kernel) ⟨Nat.le_of_ble_eq_true rfl, Nat.le_of_ble_eq_true rfl⟩) ⟨x_blind, x_recv hI hK he_40 rfl rfl, x_pre hI hK⟩ rfl rfl hl.1 rfl (lv_room (Nat.le_of_ble_eq_true rfl)) dX6_wholeOf_40 ⟨show nc + mc_30 + 0 ≤ mc by omega, show ns + ms_30 + 0 ≤ ms by omega⟩) hI (fun r_40 h_40 H locs hw hI => ?_)
    obtain ⟨eh_40, hw⟩ := hw
    rw [eh_40] at hI
    refine lv_goto (tgt := 51) hx hb dX6_wholeOf_43 (by decide) ?_
    exact mj_X6_wholeOf_51 C mc ms post postx  _ _ _ _ _ _ _ _ _ hw hI (by omega) (by omega) (lv_sub hl [] rfl)
set_option maxHeartbeats 4000000 in
set_option maxRecDepth 100000 in
theorem m_X6_wholeOf (l : Launch) (hst : l.stackTraces = false) (G : xG) (h0 : xH) (mc ms : Nat) (x0 : Nat) (x1 : Int32) (x2 : Int32) (x3 : Int32) (x4 : Int32) (post : Nat → xH → Prop) (postx : String → xH → Prop) (hw : wp_X6_wholeOf h0 mc ms x0 x1 x2 x3 x4 post postx) (sz : Nat) : vx_Met l yX6_wholeOf (wu yX6_wholeOf cX6_wholeOf 6 (some (.object "ExactFilter$Whole"))) (rX6_wholeOf mc ms) (x_Px G [.ref x0, .int x1, .int x2, .int x3, .int x4] h0 sz) (x_Qr G h0 sz post) (x_X G h0 sz postx) mc ms (x_A h0 sz) := by
  refine vx_ofW (cc := cX6_wholeOf) (maxL := 6) (ret := (some (.object "ExactFilter$Whole"))) (by decide) rfl ?_
  intro p e s m args below meth c s₁ B hml hno hv
  obtain ⟨rfl, hsz, hR, hK, hZ⟩ := hv
  subst hsz
  have C : CXT p l s m _ meth c G RX6 cX6_wholeOf 6 (some (.object "ExactFilter$Whole")) h0 := ⟨⟨B.exec, B.bytes, B.returns, hml, findClass_of_methodNamed B.named, x_hg (atoms_spec (ws := wu yX6_wholeOf cX6_wholeOf 6 (some (.object "ExactFilter$Whole"))) B.pre), B.notSynchronized, hK⟩, hno, hZ, hst⟩
  obtain ⟨⟨hx, hb, hr, hml, hown, hg, hlocks, hK⟩, hno, hZ, hst⟩ := id C
  have hI : x_I G (x_A h0 s.heap.size) s.heap h0 s.heap [] := x_I.start hR
  have hkc : 0 + mc ≤ mc := by omega
  have hks : 0 + ms ≤ ms := by omega
  have hl := lv_entry ([.ref x0, .int x1, .int x2, .int x3, .int x4]) (n := 6) (Nat.le_of_ble_eq_true rfl)
  rw [lg_entry_eq]
  generalize (lg_sl ([.ref x0, .int x1, .int x2, .int x3, .int x4]) ++ List.replicate (6 - (lg_sl ([.ref x0, .int x1, .int x2, .int x3, .int x4])).length) Slot.unset).toArray = ls at hl ⊢
  have hl : lv_has ls 6 [(0, .ref x0), (1, .int x1), (2, .int x2), (3, .int x3), (4, .int x4)] := hl
  unfold wp_X6_wholeOf at hw
  refine lv_aload_n hx hb dX6_wholeOf_0 rfl (lv_at hl 0 rfl) ?_
  refine lv_iload_n hx hb dX6_wholeOf_1 rfl (lv_at hl 1 rfl) ?_
  refine lv_iload_n hx hb dX6_wholeOf_2 rfl (lv_at hl 2 rfl) ?_
  refine lv_iload_n hx hb dX6_wholeOf_3 rfl (lv_at hl 3 rfl) ?_
  obtain ⟨fs_4, he_4, hw⟩ := hw
  obtain ⟨mc_4, ms_4, hkc1, hks1, hw⟩ := hw
  refine x_tr (vx_runV (As := [.int x1, .int x2, .int x3]) (rest := []) ⟨hx, hb, hml, hown, hg⟩ (m_X6_number l hst G h0 mc_4 ms_4 x0 x1 x2 x3 _ _ hw s.heap.size) (cwV 3 hg (x_gV km_X6_107 ki_X6_number kz_X6_X6_number kn_X6 kk_X6_number) rfl rfl rfl (by decide +kernel) ⟨Nat.le_of_ble_eq_true rfl, Nat.le_of_ble_eq_true rfl⟩) ⟨x_blindx, x_recv hI hK he_4 rfl rfl, x_prex hI hK hZ⟩ rfl rfl hl.1 rfl (lv_room (Nat.le_of_ble_eq_true rfl)) dX6_wholeOf_4 ⟨show 0 + mc_4 ≤ mc by omega, show 0 + ms_4 ≤ ms by omega⟩) hI hno hlocks (show 0 + mc_4 ≤ mc by omega) (show 0 + ms_4 ≤ ms by omega) (fun _ _ hpx => hpx) (fun r_4 h_4 H locs hw hI => ?_)
  refine lv_astore (lv' := [(5, .ref r_4), (0, .ref x0), (1, .int x1), (2, .int x2), (3, .int x3), (4, .int x4)]) hx hb dX6_wholeOf_7 hl (by decide) rfl (fun ls hl => ?_)
  refine lv_iload hx hb dX6_wholeOf_9 (lv_at hl 5 rfl) ?_
  refine lv_if_eq (tgt := 28) hx hb dX6_wholeOf_11 (by decide) (fun hc11 => ?_) (fun hc11 => ?_)
  · have hw := hw.1 hc11
    exact mj_X6_wholeOf_28 C mc ms post postx  _ _ _ _ _ _ _ _ _ _ hw hI (by omega) (by omega) (lv_sub hl [5, 0] rfl)
  · have hw := hw.2 hc11
    refine lv_iload hx hb dX6_wholeOf_14 (lv_at hl 5 rfl) ?_
    refine lv_iconst (v := 1) hx hb dX6_wholeOf_16 (by decide) ?_
    refine lv_icmp_eq (tgt := 28) hx hb dX6_wholeOf_17 (by decide) (fun hc17 => ?_) (fun hc17 => ?_)
    · have hw := hw.1 hc17
      exact mj_X6_wholeOf_28 C mc ms post postx  _ _ _ _ _ _ _ _ _ _ hw hI (by omega) (by omega) (lv_sub hl [5, 0] rfl)
    · have hw := hw.2 hc17
      obtain ⟨hkc1, hks1, hw⟩ := hw
      exact x_thr hx hb hst hown (by decide +kernel) (hg _ (at_links _ (by decide +kernel))) (hg _ (at_links _ (by decide +kernel))) (x_at hg hZ.2.2 at_42a at_42b) at_42c hZ hI (by rw [hml]; exact hl.1) dX6_wholeOf_20 dX6_wholeOf_23 dX6_wholeOf_24 dX6_wholeOf_27 hno (Nat.le_of_ble_eq_true rfl) (Nat.le_of_ble_eq_true rfl) (show 0 + mc_4 + 1 ≤ mc by omega) (show 0 + ms_4 + 6 ≤ ms by omega) hlocks hw (show 0 + mc_4 + 1 ≤ mc by omega) (show 0 + ms_4 + 6 ≤ ms by omega)
-- ===== ExactFilter.sign
abbrev rX6_sign (mc ms : Nat) : Room := { frames := 7, cells := mc, slots := ms, locals := 105 }
set_option maxRecDepth 100000 in
def wp_X6_sign (h0 : xH) (mc ms : Nat) (x0 : Nat) (x1 : Int32) (x2 : Int32) (x3 : Int32) (post : Int32 → xH → Prop) (postx : String → xH → Prop) : Prop := ∃ fs_4 : List Value, h0 x0 = some (.inr (6, fs_4)) ∧ ∃ mc_4 ms_4 : Nat, mc_4 ≤ mc ∧ ms_4 ≤ ms ∧ wp_X6_number h0 mc_4 ms_4 x0 x1 x2 x3 (fun (r_4 : Nat) (h_4 : xH) => ∃ fs_7 : List Value, h_4 r_4 = some (.inr (0, fs_7)) ∧ wp_X0_sense h_4  r_4 (fun (r_7 : Int32) => post r_7 h_4)) postx
set_option maxHeartbeats 4000000 in
set_option maxRecDepth 100000 in
theorem m_X6_sign (l : Launch) (hst : l.stackTraces = false) (G : xG) (h0 : xH) (mc ms : Nat) (x0 : Nat) (x1 : Int32) (x2 : Int32) (x3 : Int32) (post : Int32 → xH → Prop) (postx : String → xH → Prop) (hw : wp_X6_sign h0 mc ms x0 x1 x2 x3 post postx) (sz : Nat) : vx_Met l yX6_sign (wu yX6_sign cX6_sign 4 (some .int)) (rX6_sign mc ms) (x_Px G [.ref x0, .int x1, .int x2, .int x3] h0 sz) (x_Qi G h0 sz post) (x_X G h0 sz postx) mc ms (x_A h0 sz) := by
  refine vx_ofW (cc := cX6_sign) (maxL := 4) (ret := (some .int)) (by decide) rfl ?_
  intro p e s m args below meth c s₁ B hml hno hv
  obtain ⟨rfl, hsz, hR, hK, hZ⟩ := hv
  subst hsz
  have C : CXT p l s m _ meth c G RX6 cX6_sign 4 (some .int) h0 := ⟨⟨B.exec, B.bytes, B.returns, hml, findClass_of_methodNamed B.named, x_hg (atoms_spec (ws := wu yX6_sign cX6_sign 4 (some .int)) B.pre), B.notSynchronized, hK⟩, hno, hZ, hst⟩
  obtain ⟨⟨hx, hb, hr, hml, hown, hg, hlocks, hK⟩, hno, hZ, hst⟩ := id C
  have hI : x_I G (x_A h0 s.heap.size) s.heap h0 s.heap [] := x_I.start hR
  have hkc : 0 + mc ≤ mc := by omega
  have hks : 0 + ms ≤ ms := by omega
  have hl := lv_entry ([.ref x0, .int x1, .int x2, .int x3]) (n := 4) (Nat.le_of_ble_eq_true rfl)
  rw [lg_entry_eq]
  generalize (lg_sl ([.ref x0, .int x1, .int x2, .int x3]) ++ List.replicate (4 - (lg_sl ([.ref x0, .int x1, .int x2, .int x3])).length) Slot.unset).toArray = ls at hl ⊢
  have hl : lv_has ls 4 [(0, .ref x0), (1, .int x1), (2, .int x2), (3, .int x3)] := hl
  unfold wp_X6_sign at hw
  refine lv_aload_n hx hb dX6_sign_0 rfl (lv_at hl 0 rfl) ?_
  refine lv_iload_n hx hb dX6_sign_1 rfl (lv_at hl 1 rfl) ?_
  refine lv_iload_n hx hb dX6_sign_2 rfl (lv_at hl 2 rfl) ?_
  refine lv_iload_n hx hb dX6_sign_3 rfl (lv_at hl 3 rfl) ?_
  obtain ⟨fs_4, he_4, hw⟩ := hw
  obtain ⟨mc_4, ms_4, hkc1, hks1, hw⟩ := hw
  refine x_tr (vx_runV (As := [.int x1, .int x2, .int x3]) (rest := []) ⟨hx, hb, hml, hown, hg⟩ (m_X6_number l hst G h0 mc_4 ms_4 x0 x1 x2 x3 _ _ hw s.heap.size) (cwV 3 hg (x_gV km_X6_107 ki_X6_number kz_X6_X6_number kn_X6 kk_X6_number) rfl rfl rfl (by decide +kernel) ⟨Nat.le_of_ble_eq_true rfl, Nat.le_of_ble_eq_true rfl⟩) ⟨x_blindx, x_recv hI hK he_4 rfl rfl, x_prex hI hK hZ⟩ rfl rfl hl.1 rfl (lv_room (Nat.le_of_ble_eq_true rfl)) dX6_sign_4 ⟨show 0 + mc_4 ≤ mc by omega, show 0 + ms_4 ≤ ms by omega⟩) hI hno hlocks (show 0 + mc_4 ≤ mc by omega) (show 0 + ms_4 ≤ ms by omega) (fun _ _ hpx => hpx) (fun r_4 h_4 H locs hw hI => ?_)
  obtain ⟨fs_7, he_7, hw⟩ := hw
  refine x_ci (va_runV (As := []) (rest := []) ⟨hx, hb, hml, hown, hg⟩ (m_X0_sense l G h_4  r_4 _ hw H.size) (cwV 0 hg (x_gV km_X6_111 ki_X0_sense kz_X0_X0_sense kn_X0 kk_X0_sense) rfl rfl rfl (by decide +kernel) ⟨Nat.le_of_ble_eq_true rfl, Nat.le_of_ble_eq_true rfl⟩) ⟨x_blind, x_recv hI hK he_7 rfl rfl, x_pre hI hK⟩ rfl rfl hl.1 rfl (lv_room (Nat.le_of_ble_eq_true rfl)) dX6_sign_7 ⟨show 0 + mc_4 + 0 ≤ mc by omega, show 0 + ms_4 + 0 ≤ ms by omega⟩) hI (fun r_7 h_7 H locs hw hI => ?_)
  obtain ⟨eh_7, hw⟩ := hw
  rw [eh_7] at hI
  exact vx_ret (x_iret hx hb hr hlocks hI hw (by omega) (by omega) dX6_sign_10)
-- ===== ExactFilter.pieces
abbrev rX6_pieces (mc ms : Nat) : Room := { frames := 8, cells := mc, slots := ms, locals := 195 }
set_option maxRecDepth 100000 in
def wp_X6_pieces (h0 : xH) (mc ms : Nat) (x0 : Nat) (x1 : Int32) (x2 : Int32) (x3 : Int32) (x4 : Int32) (post : Int32 → xH → Prop) (postx : String → xH → Prop) : Prop := ∃ fs_6 : List Value, h0 x0 = some (.inr (6, fs_6)) ∧ ∃ mc_6 ms_6 : Nat, mc_6 ≤ mc ∧ ms_6 ≤ ms ∧ wp_X6_wholeOf h0 mc_6 ms_6 x0 x1 x2 x3 x4 (fun (r_6 : Nat) (h_6 : xH) => ∃ fs_9 : List Value, h_6 r_6 = some (.inr (5, fs_9)) ∧ wp_X5_length h_6  r_6 (fun (r_9 : Int32) => post r_9 h_6)) postx
set_option maxHeartbeats 4000000 in
set_option maxRecDepth 100000 in
theorem m_X6_pieces (l : Launch) (hst : l.stackTraces = false) (G : xG) (h0 : xH) (mc ms : Nat) (x0 : Nat) (x1 : Int32) (x2 : Int32) (x3 : Int32) (x4 : Int32) (post : Int32 → xH → Prop) (postx : String → xH → Prop) (hw : wp_X6_pieces h0 mc ms x0 x1 x2 x3 x4 post postx) (sz : Nat) : vx_Met l yX6_pieces (wu yX6_pieces cX6_pieces 5 (some .int)) (rX6_pieces mc ms) (x_Px G [.ref x0, .int x1, .int x2, .int x3, .int x4] h0 sz) (x_Qi G h0 sz post) (x_X G h0 sz postx) mc ms (x_A h0 sz) := by
  refine vx_ofW (cc := cX6_pieces) (maxL := 5) (ret := (some .int)) (by decide) rfl ?_
  intro p e s m args below meth c s₁ B hml hno hv
  obtain ⟨rfl, hsz, hR, hK, hZ⟩ := hv
  subst hsz
  have C : CXT p l s m _ meth c G RX6 cX6_pieces 5 (some .int) h0 := ⟨⟨B.exec, B.bytes, B.returns, hml, findClass_of_methodNamed B.named, x_hg (atoms_spec (ws := wu yX6_pieces cX6_pieces 5 (some .int)) B.pre), B.notSynchronized, hK⟩, hno, hZ, hst⟩
  obtain ⟨⟨hx, hb, hr, hml, hown, hg, hlocks, hK⟩, hno, hZ, hst⟩ := id C
  have hI : x_I G (x_A h0 s.heap.size) s.heap h0 s.heap [] := x_I.start hR
  have hkc : 0 + mc ≤ mc := by omega
  have hks : 0 + ms ≤ ms := by omega
  have hl := lv_entry ([.ref x0, .int x1, .int x2, .int x3, .int x4]) (n := 5) (Nat.le_of_ble_eq_true rfl)
  rw [lg_entry_eq]
  generalize (lg_sl ([.ref x0, .int x1, .int x2, .int x3, .int x4]) ++ List.replicate (5 - (lg_sl ([.ref x0, .int x1, .int x2, .int x3, .int x4])).length) Slot.unset).toArray = ls at hl ⊢
  have hl : lv_has ls 5 [(0, .ref x0), (1, .int x1), (2, .int x2), (3, .int x3), (4, .int x4)] := hl
  unfold wp_X6_pieces at hw
  refine lv_aload_n hx hb dX6_pieces_0 rfl (lv_at hl 0 rfl) ?_
  refine lv_iload_n hx hb dX6_pieces_1 rfl (lv_at hl 1 rfl) ?_
  refine lv_iload_n hx hb dX6_pieces_2 rfl (lv_at hl 2 rfl) ?_
  refine lv_iload_n hx hb dX6_pieces_3 rfl (lv_at hl 3 rfl) ?_
  refine lv_iload hx hb dX6_pieces_4 (lv_at hl 4 rfl) ?_
  obtain ⟨fs_6, he_6, hw⟩ := hw
  obtain ⟨mc_6, ms_6, hkc1, hks1, hw⟩ := hw
  refine x_tr (vx_runV (As := [.int x1, .int x2, .int x3, .int x4]) (rest := []) ⟨hx, hb, hml, hown, hg⟩ (m_X6_wholeOf l hst G h0 mc_6 ms_6 x0 x1 x2 x3 x4 _ _ hw s.heap.size) (cwV 4 hg (x_gV km_X6_117 ki_X6_wholeOf kz_X6_X6_wholeOf kn_X6 kk_X6_wholeOf) rfl rfl rfl (by decide +kernel) ⟨Nat.le_of_ble_eq_true rfl, Nat.le_of_ble_eq_true rfl⟩) ⟨x_blindx, x_recv hI hK he_6 rfl rfl, x_prex hI hK hZ⟩ rfl rfl hl.1 rfl (lv_room (Nat.le_of_ble_eq_true rfl)) dX6_pieces_6 ⟨show 0 + mc_6 ≤ mc by omega, show 0 + ms_6 ≤ ms by omega⟩) hI hno hlocks (show 0 + mc_6 ≤ mc by omega) (show 0 + ms_6 ≤ ms by omega) (fun _ _ hpx => hpx) (fun r_6 h_6 H locs hw hI => ?_)
  obtain ⟨fs_9, he_9, hw⟩ := hw
  refine x_ci (va_runV (As := []) (rest := []) ⟨hx, hb, hml, hown, hg⟩ (m_X5_length l G h_6  r_6 _ hw H.size) (cwV 0 hg (x_gV km_X6_121 ki_X5_length kz_X5_X5_length kn_X5 kk_X5_length) rfl rfl rfl (by decide +kernel) ⟨Nat.le_of_ble_eq_true rfl, Nat.le_of_ble_eq_true rfl⟩) ⟨x_blind, x_recv hI hK he_9 rfl rfl, x_pre hI hK⟩ rfl rfl hl.1 rfl (lv_room (Nat.le_of_ble_eq_true rfl)) dX6_pieces_9 ⟨show 0 + mc_6 + 0 ≤ mc by omega, show 0 + ms_6 + 0 ≤ ms by omega⟩) hI (fun r_9 h_9 H locs hw hI => ?_)
  obtain ⟨eh_9, hw⟩ := hw
  rw [eh_9] at hI
  exact vx_ret (x_iret hx hb hr hlocks hI hw (by omega) (by omega) dX6_pieces_12)
-- ===== ExactFilter.piece
abbrev rX6_piece (mc ms : Nat) : Room := { frames := 8, cells := mc, slots := ms, locals := 195 }
set_option maxRecDepth 100000 in
def wp_X6_piece (h0 : xH) (mc ms : Nat) (x0 : Nat) (x1 : Int32) (x2 : Int32) (x3 : Int32) (x4 : Int32) (x5 : Int32) (post : Int32 → xH → Prop) (postx : String → xH → Prop) : Prop := ∃ fs_6 : List Value, h0 x0 = some (.inr (6, fs_6)) ∧ ∃ mc_6 ms_6 : Nat, mc_6 ≤ mc ∧ ms_6 ≤ ms ∧ wp_X6_wholeOf h0 mc_6 ms_6 x0 x1 x2 x3 x4 (fun (r_6 : Nat) (h_6 : xH) => (0 ≤ x5 → ∃ fs_28 : List Value, h_6 r_6 = some (.inr (5, fs_28)) ∧ wp_X5_digit h_6  r_6 x5 (fun (r_28 : Int32) => post r_28 h_6)) ∧ (¬ 0 ≤ x5 → 1 ≤ (mc - mc_6) ∧ 6 ≤ (ms - ms_6) ∧ postx EIA h_6)) postx
set_option maxHeartbeats 4000000 in
set_option maxRecDepth 100000 in
theorem m_X6_piece (l : Launch) (hst : l.stackTraces = false) (G : xG) (h0 : xH) (mc ms : Nat) (x0 : Nat) (x1 : Int32) (x2 : Int32) (x3 : Int32) (x4 : Int32) (x5 : Int32) (post : Int32 → xH → Prop) (postx : String → xH → Prop) (hw : wp_X6_piece h0 mc ms x0 x1 x2 x3 x4 x5 post postx) (sz : Nat) : vx_Met l yX6_piece (wu yX6_piece cX6_piece 7 (some .int)) (rX6_piece mc ms) (x_Px G [.ref x0, .int x1, .int x2, .int x3, .int x4, .int x5] h0 sz) (x_Qi G h0 sz post) (x_X G h0 sz postx) mc ms (x_A h0 sz) := by
  refine vx_ofW (cc := cX6_piece) (maxL := 7) (ret := (some .int)) (by decide) rfl ?_
  intro p e s m args below meth c s₁ B hml hno hv
  obtain ⟨rfl, hsz, hR, hK, hZ⟩ := hv
  subst hsz
  have C : CXT p l s m _ meth c G RX6 cX6_piece 7 (some .int) h0 := ⟨⟨B.exec, B.bytes, B.returns, hml, findClass_of_methodNamed B.named, x_hg (atoms_spec (ws := wu yX6_piece cX6_piece 7 (some .int)) B.pre), B.notSynchronized, hK⟩, hno, hZ, hst⟩
  obtain ⟨⟨hx, hb, hr, hml, hown, hg, hlocks, hK⟩, hno, hZ, hst⟩ := id C
  have hI : x_I G (x_A h0 s.heap.size) s.heap h0 s.heap [] := x_I.start hR
  have hkc : 0 + mc ≤ mc := by omega
  have hks : 0 + ms ≤ ms := by omega
  have hl := lv_entry ([.ref x0, .int x1, .int x2, .int x3, .int x4, .int x5]) (n := 7) (Nat.le_of_ble_eq_true rfl)
  rw [lg_entry_eq]
  generalize (lg_sl ([.ref x0, .int x1, .int x2, .int x3, .int x4, .int x5]) ++ List.replicate (7 - (lg_sl ([.ref x0, .int x1, .int x2, .int x3, .int x4, .int x5])).length) Slot.unset).toArray = ls at hl ⊢
  have hl : lv_has ls 7 [(0, .ref x0), (1, .int x1), (2, .int x2), (3, .int x3), (4, .int x4), (5, .int x5)] := hl
  unfold wp_X6_piece at hw
  refine lv_aload_n hx hb dX6_piece_0 rfl (lv_at hl 0 rfl) ?_
  refine lv_iload_n hx hb dX6_piece_1 rfl (lv_at hl 1 rfl) ?_
  refine lv_iload_n hx hb dX6_piece_2 rfl (lv_at hl 2 rfl) ?_
  refine lv_iload_n hx hb dX6_piece_3 rfl (lv_at hl 3 rfl) ?_
  refine lv_iload hx hb dX6_piece_4 (lv_at hl 4 rfl) ?_
  obtain ⟨fs_6, he_6, hw⟩ := hw
  obtain ⟨mc_6, ms_6, hkc1, hks1, hw⟩ := hw
  refine x_tr (vx_runV (As := [.int x1, .int x2, .int x3, .int x4]) (rest := []) ⟨hx, hb, hml, hown, hg⟩ (m_X6_wholeOf l hst G h0 mc_6 ms_6 x0 x1 x2 x3 x4 _ _ hw s.heap.size) (cwV 4 hg (x_gV km_X6_117 ki_X6_wholeOf kz_X6_X6_wholeOf kn_X6 kk_X6_wholeOf) rfl rfl rfl (by decide +kernel) ⟨Nat.le_of_ble_eq_true rfl, Nat.le_of_ble_eq_true rfl⟩) ⟨x_blindx, x_recv hI hK he_6 rfl rfl, x_prex hI hK hZ⟩ rfl rfl hl.1 rfl (lv_room (Nat.le_of_ble_eq_true rfl)) dX6_piece_6 ⟨show 0 + mc_6 ≤ mc by omega, show 0 + ms_6 ≤ ms by omega⟩) hI hno hlocks (show 0 + mc_6 ≤ mc by omega) (show 0 + ms_6 ≤ ms by omega) (fun _ _ hpx => hpx) (fun r_6 h_6 H locs hw hI => ?_)
  refine lv_astore (lv' := [(6, .ref r_6), (0, .ref x0), (1, .int x1), (2, .int x2), (3, .int x3), (4, .int x4), (5, .int x5)]) hx hb dX6_piece_9 hl (by decide) rfl (fun ls hl => ?_)
  refine lv_iload hx hb dX6_piece_11 (lv_at hl 6 rfl) ?_
  refine lv_if_ge (tgt := 24) hx hb dX6_piece_13 (by decide) (fun hc13 => ?_) (fun hc13 => ?_)
  · have hw := hw.1 hc13
    refine lv_aload hx hb dX6_piece_24 (lv_at hl 0 rfl) ?_
    refine lv_iload hx hb dX6_piece_26 (lv_at hl 6 rfl) ?_
    obtain ⟨fs_28, he_28, hw⟩ := hw
    refine x_ci (va_runV (As := [.int x5]) (rest := []) ⟨hx, hb, hml, hown, hg⟩ (m_X5_digit l G h_6  r_6 x5 _ hw H.size) (cwV 1 hg (x_gV km_X6_126 ki_X5_digit kz_X5_X5_digit kn_X5 kk_X5_digit) rfl rfl rfl (by decide +kernel) ⟨Nat.le_of_ble_eq_true rfl, Nat.le_of_ble_eq_true rfl⟩) ⟨x_blind, x_recv hI hK he_28 rfl rfl, x_pre hI hK⟩ rfl rfl hl.1 rfl (lv_room (Nat.le_of_ble_eq_true rfl)) dX6_piece_28 ⟨show 0 + mc_6 + 0 ≤ mc by omega, show 0 + ms_6 + 0 ≤ ms by omega⟩) hI (fun r_28 h_28 H locs hw hI => ?_)
    obtain ⟨eh_28, hw⟩ := hw
    rw [eh_28] at hI
    exact vx_ret (x_iret hx hb hr hlocks hI hw (by omega) (by omega) dX6_piece_31)
  · have hw := hw.2 hc13
    obtain ⟨hkc1, hks1, hw⟩ := hw
    exact x_thr hx hb hst hown (by decide +kernel) (hg _ (at_links _ (by decide +kernel))) (hg _ (at_links _ (by decide +kernel))) (x_at hg hZ.2.2 at_42a at_42b) at_42c hZ hI (by rw [hml]; exact hl.1) dX6_piece_16 dX6_piece_19 dX6_piece_20 dX6_piece_23 hno (Nat.le_of_ble_eq_true rfl) (Nat.le_of_ble_eq_true rfl) (show 0 + mc_6 + 1 ≤ mc by omega) (show 0 + ms_6 + 6 ≤ ms by omega) hlocks hw (show 0 + mc_6 + 1 ≤ mc by omega) (show 0 + ms_6 + 6 ≤ ms by omega)
-- ===== ExactFilter.scaled
abbrev rX6_scaled (mc ms : Nat) : Room := { frames := 7, cells := mc, slots := ms, locals := 168 }
set_option maxRecDepth 100000 in
def wj_X6_scaled_22  (post : Int64 → xH → Prop) (postx : String → xH → Prop)  (h : xH) (kc : Nat) (ks : Nat) : Prop := 1 ≤ kc ∧ 6 ≤ ks ∧ postx EIA h
set_option maxRecDepth 100000 in
def wp_X6_scaled (h0 : xH) (mc ms : Nat) (x0 : Nat) (x1 : Int32) (x2 : Int32) (x3 : Int32) (x4 : Int32) (post : Int64 → xH → Prop) (postx : String → xH → Prop) : Prop := ∃ fs_4 : List Value, h0 x0 = some (.inr (6, fs_4)) ∧ ∃ mc_4 ms_4 : Nat, mc_4 ≤ mc ∧ ms_4 ≤ ms ∧ wp_X6_number h0 mc_4 ms_4 x0 x1 x2 x3 (fun (r_4 : Nat) (h_4 : xH) => (x4 < 1 → wj_X6_scaled_22  post postx  h_4 (mc - mc_4) (ms - ms_4)) ∧ (¬ x4 < 1 → (x4 ≤ 1000000 → ∃ fs_34 : List Value, h_4 r_4 = some (.inr (0, fs_34)) ∧ ∃ mc_34 ms_34 : Nat, mc_34 ≤ (mc - mc_4) ∧ ms_34 ≤ (ms - ms_4) ∧ wp_X0_multipleDown h_4 mc_34 ms_34 r_4 x4 (fun (r_34 : Int64) (h_34 : xH) => post r_34 h_34)) ∧ (¬ x4 ≤ 1000000 → wj_X6_scaled_22  post postx  h_4 (mc - mc_4) (ms - ms_4)))) postx
set_option maxHeartbeats 4000000 in
set_option maxRecDepth 100000 in
theorem mj_X6_scaled_22 {h0 : xH} (C : CXT p l s m args meth c G RX6 cX6_scaled 6 (some .long) h0) (mc ms : Nat) (post : Int64 → xH → Prop) (postx : String → xH → Prop) 
    
    (h : xH) (kc : Nat) (ks : Nat) (H : Heap) (locs : List Loc) (ls : Array Slot) (nc ns : Nat) (hw : wj_X6_scaled_22  post postx  h kc ks) (hI : x_I G (x_A h0 s.heap.size) s.heap h H locs) (hkc : nc + kc ≤ mc) (hks : ns + ks ≤ ms) (hl : lv_has ls 6 []) : W p l e (rX6_scaled mc ms) s m args below meth c H locs nc ns (vx_MQ below (x_Ql G h0 s.heap.size post) (x_X G h0 s.heap.size postx) args s mc ms (x_A h0 s.heap.size)) (F0 m 22 ls []) := by
  obtain ⟨⟨hx, hb, hr, hml, hown, hg, hlocks, hK⟩, hno, hZ, hst⟩ := id C
  unfold wj_X6_scaled_22 at hw
  obtain ⟨hkc1, hks1, hw⟩ := hw
  exact x_thr hx hb hst hown (by decide +kernel) (hg _ (at_links _ (by decide +kernel))) (hg _ (at_links _ (by decide +kernel))) (x_at hg hZ.2.2 at_42a at_42b) at_42c hZ hI (by rw [hml]; exact hl.1) dX6_scaled_22 dX6_scaled_25 dX6_scaled_26 dX6_scaled_29 hno (Nat.le_of_ble_eq_true rfl) (Nat.le_of_ble_eq_true rfl) (show nc + 1 ≤ mc by omega) (show ns + 6 ≤ ms by omega) hlocks hw (show nc + 1 ≤ mc by omega) (show ns + 6 ≤ ms by omega)
set_option maxHeartbeats 4000000 in
set_option maxRecDepth 100000 in
theorem m_X6_scaled (l : Launch) (hst : l.stackTraces = false) (G : xG) (h0 : xH) (mc ms : Nat) (x0 : Nat) (x1 : Int32) (x2 : Int32) (x3 : Int32) (x4 : Int32) (post : Int64 → xH → Prop) (postx : String → xH → Prop) (hw : wp_X6_scaled h0 mc ms x0 x1 x2 x3 x4 post postx) (sz : Nat) : vx_Met l yX6_scaled (wu yX6_scaled cX6_scaled 6 (some .long)) (rX6_scaled mc ms) (x_Px G [.ref x0, .int x1, .int x2, .int x3, .int x4] h0 sz) (x_Ql G h0 sz post) (x_X G h0 sz postx) mc ms (x_A h0 sz) := by
  refine vx_ofW (cc := cX6_scaled) (maxL := 6) (ret := (some .long)) (by decide) rfl ?_
  intro p e s m args below meth c s₁ B hml hno hv
  obtain ⟨rfl, hsz, hR, hK, hZ⟩ := hv
  subst hsz
  have C : CXT p l s m _ meth c G RX6 cX6_scaled 6 (some .long) h0 := ⟨⟨B.exec, B.bytes, B.returns, hml, findClass_of_methodNamed B.named, x_hg (atoms_spec (ws := wu yX6_scaled cX6_scaled 6 (some .long)) B.pre), B.notSynchronized, hK⟩, hno, hZ, hst⟩
  obtain ⟨⟨hx, hb, hr, hml, hown, hg, hlocks, hK⟩, hno, hZ, hst⟩ := id C
  have hI : x_I G (x_A h0 s.heap.size) s.heap h0 s.heap [] := x_I.start hR
  have hkc : 0 + mc ≤ mc := by omega
  have hks : 0 + ms ≤ ms := by omega
  have hl := lv_entry ([.ref x0, .int x1, .int x2, .int x3, .int x4]) (n := 6) (Nat.le_of_ble_eq_true rfl)
  rw [lg_entry_eq]
  generalize (lg_sl ([.ref x0, .int x1, .int x2, .int x3, .int x4]) ++ List.replicate (6 - (lg_sl ([.ref x0, .int x1, .int x2, .int x3, .int x4])).length) Slot.unset).toArray = ls at hl ⊢
  have hl : lv_has ls 6 [(0, .ref x0), (1, .int x1), (2, .int x2), (3, .int x3), (4, .int x4)] := hl
  unfold wp_X6_scaled at hw
  refine lv_aload_n hx hb dX6_scaled_0 rfl (lv_at hl 0 rfl) ?_
  refine lv_iload_n hx hb dX6_scaled_1 rfl (lv_at hl 1 rfl) ?_
  refine lv_iload_n hx hb dX6_scaled_2 rfl (lv_at hl 2 rfl) ?_
  refine lv_iload_n hx hb dX6_scaled_3 rfl (lv_at hl 3 rfl) ?_
  obtain ⟨fs_4, he_4, hw⟩ := hw
  obtain ⟨mc_4, ms_4, hkc1, hks1, hw⟩ := hw
  refine x_tr (vx_runV (As := [.int x1, .int x2, .int x3]) (rest := []) ⟨hx, hb, hml, hown, hg⟩ (m_X6_number l hst G h0 mc_4 ms_4 x0 x1 x2 x3 _ _ hw s.heap.size) (cwV 3 hg (x_gV km_X6_107 ki_X6_number kz_X6_X6_number kn_X6 kk_X6_number) rfl rfl rfl (by decide +kernel) ⟨Nat.le_of_ble_eq_true rfl, Nat.le_of_ble_eq_true rfl⟩) ⟨x_blindx, x_recv hI hK he_4 rfl rfl, x_prex hI hK hZ⟩ rfl rfl hl.1 rfl (lv_room (Nat.le_of_ble_eq_true rfl)) dX6_scaled_4 ⟨show 0 + mc_4 ≤ mc by omega, show 0 + ms_4 ≤ ms by omega⟩) hI hno hlocks (show 0 + mc_4 ≤ mc by omega) (show 0 + ms_4 ≤ ms by omega) (fun _ _ hpx => hpx) (fun r_4 h_4 H locs hw hI => ?_)
  refine lv_astore (lv' := [(5, .ref r_4), (0, .ref x0), (1, .int x1), (2, .int x2), (3, .int x3), (4, .int x4)]) hx hb dX6_scaled_7 hl (by decide) rfl (fun ls hl => ?_)
  refine lv_iload hx hb dX6_scaled_9 (lv_at hl 5 rfl) ?_
  refine lv_iconst (v := 1) hx hb dX6_scaled_11 (by decide) ?_
  refine lv_icmp_lt (tgt := 22) hx hb dX6_scaled_12 (by decide) (fun hc12 => ?_) (fun hc12 => ?_)
  · have hw := hw.1 hc12
    exact mj_X6_scaled_22 C mc ms post postx  _ _ _ _ _ _ _ _ hw hI (by omega) (by omega) (lv_sub hl [] rfl)
  · have hw := hw.2 hc12
    refine lv_iload hx hb dX6_scaled_15 (lv_at hl 5 rfl) ?_
    refine lv_ldc (v := 1000000) hx hb hown (hg _ kc_X6_130) dX6_scaled_17 ?_
    refine lv_icmp_le (tgt := 30) hx hb dX6_scaled_19 (by decide) (fun hc19 => ?_) (fun hc19 => ?_)
    · have hw := hw.1 hc19
      refine lv_aload hx hb dX6_scaled_30 (lv_at hl 0 rfl) ?_
      refine lv_iload hx hb dX6_scaled_32 (lv_at hl 5 rfl) ?_
      obtain ⟨fs_34, he_34, hw⟩ := hw
      obtain ⟨mc_34, ms_34, hkc1, hks1, hw⟩ := hw
      refine x_cl (va_runV (As := [.int x4]) (rest := []) ⟨hx, hb, hml, hown, hg⟩ (m_X0_multipleDown l G h_4 mc_34 ms_34 r_4 x4 _ hw H.size) (cwV 1 hg (x_gV km_X6_131 ki_X0_multipleDown kz_X0_X0_multipleDown kn_X0 kk_X0_multipleDown) rfl rfl rfl (by decide +kernel) ⟨Nat.le_of_ble_eq_true rfl, Nat.le_of_ble_eq_true rfl⟩) ⟨x_blind, x_recv hI hK he_34 rfl rfl, x_pre hI hK⟩ rfl rfl hl.1 rfl (lv_room (Nat.le_of_ble_eq_true rfl)) dX6_scaled_34 ⟨show 0 + mc_4 + mc_34 ≤ mc by omega, show 0 + ms_4 + ms_34 ≤ ms by omega⟩) hI (fun r_34 h_34 H locs hw hI => ?_)
      exact vx_ret (x_lret hx hb hr hlocks hI hw (by omega) (by omega) dX6_scaled_37)
    · have hw := hw.2 hc19
      exact mj_X6_scaled_22 C mc ms post postx  _ _ _ _ _ _ _ _ hw hI (by omega) (by omega) (lv_sub hl [] rfl)
-- ===== ExactFilter.compare
abbrev rX6_compare (mc ms : Nat) : Room := { frames := 7, cells := mc, slots := ms, locals := 105 }
set_option maxRecDepth 100000 in
def wp_X6_compare (h0 : xH) (mc ms : Nat) (x0 : Nat) (x1 : Int32) (x2 : Int32) (x3 : Int32) (x4 : Int32) (x5 : Int32) (post : Int32 → xH → Prop) (postx : String → xH → Prop) : Prop := ∃ fs_4 : List Value, h0 x0 = some (.inr (6, fs_4)) ∧ ∃ mc_4 ms_4 : Nat, mc_4 ≤ mc ∧ ms_4 ≤ ms ∧ wp_X6_number h0 mc_4 ms_4 x0 x1 x2 x3 (fun (r_4 : Nat) (h_4 : xH) => wp_X6_isFraction h_4  x4 x5 (fun (r_13 : Int32) => (¬ r_13 = 0 → ∃ fs_33 : List Value, h_4 r_4 = some (.inr (0, fs_33)) ∧ ∃ mc_33 ms_33 : Nat, mc_33 ≤ (mc - mc_4) ∧ ms_33 ≤ (ms - ms_4) ∧ wp_X0_against h_4 mc_33 ms_33 r_4 x4 x5 (fun (r_33 : Int32) (h_33 : xH) => post r_33 h_33)) ∧ (r_13 = 0 → 1 ≤ (mc - mc_4) ∧ 6 ≤ (ms - ms_4) ∧ postx EIA h_4))) postx
set_option maxHeartbeats 4000000 in
set_option maxRecDepth 100000 in
theorem m_X6_compare (l : Launch) (hst : l.stackTraces = false) (G : xG) (h0 : xH) (mc ms : Nat) (x0 : Nat) (x1 : Int32) (x2 : Int32) (x3 : Int32) (x4 : Int32) (x5 : Int32) (post : Int32 → xH → Prop) (postx : String → xH → Prop) (hw : wp_X6_compare h0 mc ms x0 x1 x2 x3 x4 x5 post postx) (sz : Nat) : vx_Met l yX6_compare (wu yX6_compare cX6_compare 7 (some .int)) (rX6_compare mc ms) (x_Px G [.ref x0, .int x1, .int x2, .int x3, .int x4, .int x5] h0 sz) (x_Qi G h0 sz post) (x_X G h0 sz postx) mc ms (x_A h0 sz) := by
  refine vx_ofW (cc := cX6_compare) (maxL := 7) (ret := (some .int)) (by decide) rfl ?_
  intro p e s m args below meth c s₁ B hml hno hv
  obtain ⟨rfl, hsz, hR, hK, hZ⟩ := hv
  subst hsz
  have C : CXT p l s m _ meth c G RX6 cX6_compare 7 (some .int) h0 := ⟨⟨B.exec, B.bytes, B.returns, hml, findClass_of_methodNamed B.named, x_hg (atoms_spec (ws := wu yX6_compare cX6_compare 7 (some .int)) B.pre), B.notSynchronized, hK⟩, hno, hZ, hst⟩
  obtain ⟨⟨hx, hb, hr, hml, hown, hg, hlocks, hK⟩, hno, hZ, hst⟩ := id C
  have hI : x_I G (x_A h0 s.heap.size) s.heap h0 s.heap [] := x_I.start hR
  have hkc : 0 + mc ≤ mc := by omega
  have hks : 0 + ms ≤ ms := by omega
  have hl := lv_entry ([.ref x0, .int x1, .int x2, .int x3, .int x4, .int x5]) (n := 7) (Nat.le_of_ble_eq_true rfl)
  rw [lg_entry_eq]
  generalize (lg_sl ([.ref x0, .int x1, .int x2, .int x3, .int x4, .int x5]) ++ List.replicate (7 - (lg_sl ([.ref x0, .int x1, .int x2, .int x3, .int x4, .int x5])).length) Slot.unset).toArray = ls at hl ⊢
  have hl : lv_has ls 7 [(0, .ref x0), (1, .int x1), (2, .int x2), (3, .int x3), (4, .int x4), (5, .int x5)] := hl
  unfold wp_X6_compare at hw
  refine lv_aload_n hx hb dX6_compare_0 rfl (lv_at hl 0 rfl) ?_
  refine lv_iload_n hx hb dX6_compare_1 rfl (lv_at hl 1 rfl) ?_
  refine lv_iload_n hx hb dX6_compare_2 rfl (lv_at hl 2 rfl) ?_
  refine lv_iload_n hx hb dX6_compare_3 rfl (lv_at hl 3 rfl) ?_
  obtain ⟨fs_4, he_4, hw⟩ := hw
  obtain ⟨mc_4, ms_4, hkc1, hks1, hw⟩ := hw
  refine x_tr (vx_runV (As := [.int x1, .int x2, .int x3]) (rest := []) ⟨hx, hb, hml, hown, hg⟩ (m_X6_number l hst G h0 mc_4 ms_4 x0 x1 x2 x3 _ _ hw s.heap.size) (cwV 3 hg (x_gV km_X6_107 ki_X6_number kz_X6_X6_number kn_X6 kk_X6_number) rfl rfl rfl (by decide +kernel) ⟨Nat.le_of_ble_eq_true rfl, Nat.le_of_ble_eq_true rfl⟩) ⟨x_blindx, x_recv hI hK he_4 rfl rfl, x_prex hI hK hZ⟩ rfl rfl hl.1 rfl (lv_room (Nat.le_of_ble_eq_true rfl)) dX6_compare_4 ⟨show 0 + mc_4 ≤ mc by omega, show 0 + ms_4 ≤ ms by omega⟩) hI hno hlocks (show 0 + mc_4 ≤ mc by omega) (show 0 + ms_4 ≤ ms by omega) (fun _ _ hpx => hpx) (fun r_4 h_4 H locs hw hI => ?_)
  refine lv_astore (lv' := [(6, .ref r_4), (0, .ref x0), (1, .int x1), (2, .int x2), (3, .int x3), (4, .int x4), (5, .int x5)]) hx hb dX6_compare_7 hl (by decide) rfl (fun ls hl => ?_)
  refine lv_iload hx hb dX6_compare_9 (lv_at hl 5 rfl) ?_
  refine lv_iload hx hb dX6_compare_11 (lv_at hl 6 rfl) ?_
  refine x_ci (va_runS (As := [.int x4, .int x5]) (rest := []) ⟨hx, hb, hml, hown, hg⟩ (m_X6_isFraction l G h_4  x4 x5 _ hw H.size) (va_cwS 2 hg (x_gS km_X6_58 ks_X6_isFraction kn_X6 kk_X6_isFraction) rfl rfl rfl (by decide +kernel) ⟨Nat.le_of_ble_eq_true rfl, Nat.le_of_ble_eq_true rfl⟩) ⟨x_blind, x_pre hI hK⟩ rfl rfl hl.1 rfl (lv_room (Nat.le_of_ble_eq_true rfl)) dX6_compare_13 ⟨show 0 + mc_4 + 0 ≤ mc by omega, show 0 + ms_4 + 0 ≤ ms by omega⟩) hI (fun r_13 h_13 H locs hw hI => ?_)
  obtain ⟨eh_13, hw⟩ := hw
  rw [eh_13] at hI
  refine lv_if_ne (tgt := 27) hx hb dX6_compare_16 (by decide) (fun hc16 => ?_) (fun hc16 => ?_)
  · have hw := hw.1 hc16
    refine lv_aload hx hb dX6_compare_27 (lv_at hl 0 rfl) ?_
    refine lv_iload hx hb dX6_compare_29 (lv_at hl 5 rfl) ?_
    refine lv_iload hx hb dX6_compare_31 (lv_at hl 6 rfl) ?_
    obtain ⟨fs_33, he_33, hw⟩ := hw
    obtain ⟨mc_33, ms_33, hkc1, hks1, hw⟩ := hw
    refine x_ci (va_runV (As := [.int x4, .int x5]) (rest := []) ⟨hx, hb, hml, hown, hg⟩ (m_X0_against l G h_4 mc_33 ms_33 r_4 x4 x5 _ hw H.size) (cwV 2 hg (x_gV km_X6_135 ki_X0_against kz_X0_X0_against kn_X0 kk_X0_against) rfl rfl rfl (by decide +kernel) ⟨Nat.le_of_ble_eq_true rfl, Nat.le_of_ble_eq_true rfl⟩) ⟨x_blind, x_recv hI hK he_33 rfl rfl, x_pre hI hK⟩ rfl rfl hl.1 rfl (lv_room (Nat.le_of_ble_eq_true rfl)) dX6_compare_33 ⟨show 0 + mc_4 + 0 + mc_33 ≤ mc by omega, show 0 + ms_4 + 0 + ms_33 ≤ ms by omega⟩) hI (fun r_33 h_33 H locs hw hI => ?_)
    exact vx_ret (x_iret hx hb hr hlocks hI hw (by omega) (by omega) dX6_compare_36)
  · have hw := hw.2 hc16
    obtain ⟨hkc1, hks1, hw⟩ := hw
    exact x_thr hx hb hst hown (by decide +kernel) (hg _ (at_links _ (by decide +kernel))) (hg _ (at_links _ (by decide +kernel))) (x_at hg hZ.2.2 at_42a at_42b) at_42c hZ hI (by rw [hml]; exact hl.1) dX6_compare_19 dX6_compare_22 dX6_compare_23 dX6_compare_26 hno (Nat.le_of_ble_eq_true rfl) (Nat.le_of_ble_eq_true rfl) (show 0 + mc_4 + 0 + 1 ≤ mc by omega) (show 0 + ms_4 + 0 + 6 ≤ ms by omega) hlocks hw (show 0 + mc_4 + 0 + 1 ≤ mc by omega) (show 0 + ms_4 + 0 + 6 ≤ ms by omega)
end XB_xb3
