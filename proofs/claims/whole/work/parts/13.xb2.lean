section XB_xb2
variable {p : Program} {l : Launch} {e : Env} {s : State} {m : MethodId} {args : Array Value} {below : List Frame} {meth : Method} {c : Code} {G : xG}
-- ===== ExactFilter$Fraction.init
abbrev rX0_init  : Room := { frames := 1, cells := 0, slots := 0, locals := 20 }
def wp_X0_init (h0 : xH)  (x0 : Nat) (x1 : Nat) (x2 : Nat) (post : xH → Prop) : Prop := ∃ fs_6 : List Value, h0 x0 = some (.inr (0, fs_6)) ∧ 0 < (fs_6 : List Value).length ∧ ∀ h_6 : xH, h_6 = x_up h0 x0 (.inr (0, (fs_6 : List Value).set 0 (.ref x1))) → 1 < ((fs_6 : List Value).set 0 (.ref x1) : List Value).length ∧ ∀ h_11 : xH, h_11 = x_up h_6 x0 (.inr (0, ((fs_6 : List Value).set 0 (.ref x1) : List Value).set 1 (.ref x2))) → post h_11
set_option maxHeartbeats 4000000 in
set_option maxRecDepth 100000 in
theorem m_X0_init (l : Launch) (G : xG) (h0 : xH)  (x0 : Nat) (x1 : Nat) (x2 : Nat) (post : xH → Prop) (hw : wp_X0_init h0  x0 x1 x2 post) (sz : Nat) : Met l yX0_init (wu yX0_init cX0_init 3 none) (rX0_init) (x_Pc G [.ref x0, .ref x1, .ref x2] h0 sz) (x_Qv G h0 sz post) 0 0 (x_A h0 sz) := by
  refine Met.ofW (cc := cX0_init) (maxL := 3) (ret := none) (by decide) rfl ?_
  intro p e s m args below meth c s₁ B hml hv
  obtain ⟨rfl, hsz, hR, hK⟩ := hv
  subst hsz
  have C : CX p s m _ meth c G RX0 cX0_init 3 none := ⟨B.exec, B.bytes, B.returns, hml, findClass_of_methodNamed B.named, x_hg (atoms_spec (ws := wu yX0_init cX0_init 3 none) B.pre), B.notSynchronized, hK⟩
  obtain ⟨hx, hb, hr, hml, hown, hg, hlocks, hK⟩ := id C
  have hin : meth.name = "<init>" := (name_of_methodNamed B.named B.method).1
  have hI : x_I G (x_A h0 s.heap.size) s.heap h0 s.heap [] := x_I.start hR
  have hkc : 0 + 0 ≤ 0 := by omega
  have hks : 0 + 0 ≤ 0 := by omega
  have hl := lv_entry ([.ref x0, .ref x1, .ref x2]) (n := 3) (Nat.le_of_ble_eq_true rfl)
  rw [lg_entry_eq]
  generalize (lg_sl ([.ref x0, .ref x1, .ref x2]) ++ List.replicate (3 - (lg_sl ([.ref x0, .ref x1, .ref x2])).length) Slot.unset).toArray = ls at hl ⊢
  have hl : lv_has ls 3 [(0, .ref x0), (1, .ref x1), (2, .ref x2)] := hl
  unfold wp_X0_init at hw
  refine lv_aload_n hx hb dX0_init_0 rfl (lv_at hl 0 rfl) ?_
  refine W.objInit hx hb hown (hg _ km_X0_1) (hg _ ki_java_lang_Object__init____V) (hg _ kk_java_lang_Object__init____V) rfl (by rw [hml]; exact hl.1) rfl dX0_init_1 (Nat.le_of_ble_eq_true rfl) (Nat.le_of_ble_eq_true rfl) ?_
  refine W.eq (g2 := F0 m 4 ls []) rfl ?_
  refine lv_aload_n hx hb dX0_init_4 rfl (lv_at hl 0 rfl) ?_
  refine lv_aload_n hx hb dX0_init_5 rfl (lv_at hl 1 rfl) ?_
  obtain ⟨fs_6, he_6, hw⟩ := hw
  obtain ⟨hlen6, hw⟩ := hw
  refine x_put (ci := 0) (v := .ref x1) (ty := .object "ExactFilter$Whole") (C := RX0) (T := TX0) (N := 3) hx hb hg ku_X0 tyX0 tyX0_ok nmX0 hown hK hI he_6 rfl 0 (by decide) (hg _ kf_X0_7) (fun _ h9 => h9) rfl (by decide +kernel) rfl rfl hlen6 dX0_init_6 (fun H locs hI => ?_)
  have hI : x_I G (x_A h0 s.heap.size) s.heap (x_up h0 x0 (.inr (0, (fs_6 : List Value).set 0 (.ref x1)))) H locs := hI
  obtain ⟨h_6, eh_6⟩ : ∃ z : xH, z = x_up h0 x0 (.inr (0, (fs_6 : List Value).set 0 (.ref x1))) := ⟨_, rfl⟩
  rw [← eh_6] at hI
  have hw := hw h_6 eh_6
  have heh_6 : h_6 x0 = some (.inr (0, (fs_6 : List Value).set 0 (.ref x1))) := by rw [eh_6]; exact x_up_s
  refine lv_aload_n hx hb dX0_init_9 rfl (lv_at hl 0 rfl) ?_
  refine lv_aload_n hx hb dX0_init_10 rfl (lv_at hl 2 rfl) ?_
  obtain ⟨hlen11, hw⟩ := hw
  refine x_put (ci := 0) (v := .ref x2) (ty := .object "ExactFilter$Whole") (C := RX0) (T := TX0) (N := 3) hx hb hg ku_X0 tyX0 tyX0_ok nmX0 hown hK hI heh_6 rfl 1 (by decide) (hg _ kf_X0_13) (fun _ h9 => h9) rfl (by decide +kernel) rfl rfl hlen11 dX0_init_11 (fun H locs hI => ?_)
  have hI : x_I G (x_A h0 s.heap.size) s.heap (x_up h_6 x0 (.inr (0, ((fs_6 : List Value).set 0 (.ref x1) : List Value).set 1 (.ref x2)))) H locs := hI
  obtain ⟨h_11, eh_11⟩ : ∃ z : xH, z = x_up h_6 x0 (.inr (0, ((fs_6 : List Value).set 0 (.ref x1) : List Value).set 1 (.ref x2))) := ⟨_, rfl⟩
  rw [← eh_11] at hI
  have hw := hw h_11 eh_11
  have heh_11 : h_11 x0 = some (.inr (0, ((fs_6 : List Value).set 0 (.ref x1) : List Value).set 1 (.ref x2))) := by rw [eh_11]; exact x_up_s
  exact x_vret hx hb hr hlocks hI hw (by omega) (by omega) dX0_init_14
-- ===== ExactFilter$Fraction.above
abbrev rX0_above  : Room := { frames := 0, cells := 0, slots := 0, locals := 0 }
def wp_X0_above (h0 : xH)  (x0 : Nat) (post : Nat → Prop) : Prop := ∃ fs_1 : List Value, h0 x0 = some (.inr (0, fs_1)) ∧ ∃ v_1 : Nat, fs_1[0]? = some (.ref v_1) ∧ post v_1
set_option maxHeartbeats 4000000 in
set_option maxRecDepth 100000 in
theorem m_X0_above (l : Launch) (G : xG) (h0 : xH)  (x0 : Nat) (post : Nat → Prop) (hw : wp_X0_above h0  x0 post) (sz : Nat) : Met l yX0_above (wu yX0_above cX0_above 1 (some (.object "ExactFilter$Whole"))) (rX0_above) (x_Pc G [.ref x0] h0 sz) (x_Qr G h0 sz (fun r9 h9 => h9 = h0 ∧ post r9)) 0 0 (x_A h0 sz) := by
  refine Met.ofW (cc := cX0_above) (maxL := 1) (ret := (some (.object "ExactFilter$Whole"))) (by decide) rfl ?_
  intro p e s m args below meth c s₁ B hml hv
  obtain ⟨rfl, hsz, hR, hK⟩ := hv
  subst hsz
  have C : CX p s m _ meth c G RX0 cX0_above 1 (some (.object "ExactFilter$Whole")) := ⟨B.exec, B.bytes, B.returns, hml, findClass_of_methodNamed B.named, x_hg (atoms_spec (ws := wu yX0_above cX0_above 1 (some (.object "ExactFilter$Whole"))) B.pre), B.notSynchronized, hK⟩
  obtain ⟨hx, hb, hr, hml, hown, hg, hlocks, hK⟩ := id C
  have hI : x_I G (x_A h0 s.heap.size) s.heap h0 s.heap [] := x_I.start hR
  have hkc : 0 + 0 ≤ 0 := by omega
  have hks : 0 + 0 ≤ 0 := by omega
  have hl := lv_entry ([.ref x0]) (n := 1) (Nat.le_of_ble_eq_true rfl)
  rw [lg_entry_eq]
  generalize (lg_sl ([.ref x0]) ++ List.replicate (1 - (lg_sl ([.ref x0])).length) Slot.unset).toArray = ls at hl ⊢
  have hl : lv_has ls 1 [(0, .ref x0)] := hl
  unfold wp_X0_above at hw
  refine lv_aload_n hx hb dX0_above_0 rfl (lv_at hl 0 rfl) ?_
  obtain ⟨fs_1, he_1, hw⟩ := hw
  obtain ⟨v_1, hv_1, hw⟩ := hw
  refine x_get (ci := 0) (C := RX0) (T := TX0) (N := 3) hx hb hg ku_X0 hown hK hI he_1 rfl 0 (by decide) (hg _ kf_X0_7) (fun _ h9 => h9) hv_1 dX0_above_1 ?_
  exact x_aret hx hb hr (by first | exact Or.inl ⟨_, rfl⟩ | exact Or.inr ⟨_, rfl⟩) hlocks hI ⟨rfl, hw⟩ (by omega) (by omega) dX0_above_4
-- ===== ExactFilter$Fraction.below
abbrev rX0_below  : Room := { frames := 0, cells := 0, slots := 0, locals := 0 }
def wp_X0_below (h0 : xH)  (x0 : Nat) (post : Nat → Prop) : Prop := ∃ fs_1 : List Value, h0 x0 = some (.inr (0, fs_1)) ∧ ∃ v_1 : Nat, fs_1[1]? = some (.ref v_1) ∧ post v_1
set_option maxHeartbeats 4000000 in
set_option maxRecDepth 100000 in
theorem m_X0_below (l : Launch) (G : xG) (h0 : xH)  (x0 : Nat) (post : Nat → Prop) (hw : wp_X0_below h0  x0 post) (sz : Nat) : Met l yX0_below (wu yX0_below cX0_below 1 (some (.object "ExactFilter$Whole"))) (rX0_below) (x_Pc G [.ref x0] h0 sz) (x_Qr G h0 sz (fun r9 h9 => h9 = h0 ∧ post r9)) 0 0 (x_A h0 sz) := by
  refine Met.ofW (cc := cX0_below) (maxL := 1) (ret := (some (.object "ExactFilter$Whole"))) (by decide) rfl ?_
  intro p e s m args below meth c s₁ B hml hv
  obtain ⟨rfl, hsz, hR, hK⟩ := hv
  subst hsz
  have C : CX p s m _ meth c G RX0 cX0_below 1 (some (.object "ExactFilter$Whole")) := ⟨B.exec, B.bytes, B.returns, hml, findClass_of_methodNamed B.named, x_hg (atoms_spec (ws := wu yX0_below cX0_below 1 (some (.object "ExactFilter$Whole"))) B.pre), B.notSynchronized, hK⟩
  obtain ⟨hx, hb, hr, hml, hown, hg, hlocks, hK⟩ := id C
  have hI : x_I G (x_A h0 s.heap.size) s.heap h0 s.heap [] := x_I.start hR
  have hkc : 0 + 0 ≤ 0 := by omega
  have hks : 0 + 0 ≤ 0 := by omega
  have hl := lv_entry ([.ref x0]) (n := 1) (Nat.le_of_ble_eq_true rfl)
  rw [lg_entry_eq]
  generalize (lg_sl ([.ref x0]) ++ List.replicate (1 - (lg_sl ([.ref x0])).length) Slot.unset).toArray = ls at hl ⊢
  have hl : lv_has ls 1 [(0, .ref x0)] := hl
  unfold wp_X0_below at hw
  refine lv_aload_n hx hb dX0_below_0 rfl (lv_at hl 0 rfl) ?_
  obtain ⟨fs_1, he_1, hw⟩ := hw
  obtain ⟨v_1, hv_1, hw⟩ := hw
  refine x_get (ci := 0) (C := RX0) (T := TX0) (N := 3) hx hb hg ku_X0 hown hK hI he_1 rfl 1 (by decide) (hg _ kf_X0_13) (fun _ h9 => h9) hv_1 dX0_below_1 ?_
  exact x_aret hx hb hr (by first | exact Or.inl ⟨_, rfl⟩ | exact Or.inr ⟨_, rfl⟩) hlocks hI ⟨rfl, hw⟩ (by omega) (by omega) dX0_below_4
-- ===== ExactFilter$Fraction.sense
abbrev rX0_sense  : Room := { frames := 1, cells := 0, slots := 0, locals := 20 }
def wp_X0_sense (h0 : xH)  (x0 : Nat) (post : Int32 → Prop) : Prop := ∃ fs_1 : List Value, h0 x0 = some (.inr (0, fs_1)) ∧ ∃ v_1 : Nat, fs_1[0]? = some (.ref v_1) ∧ ∃ fs_4 : List Value, h0 v_1 = some (.inr (5, fs_4)) ∧ wp_X5_sense h0  v_1 (fun (r_4 : Int32) => post r_4)
set_option maxHeartbeats 4000000 in
set_option maxRecDepth 100000 in
theorem m_X0_sense (l : Launch) (G : xG) (h0 : xH)  (x0 : Nat) (post : Int32 → Prop) (hw : wp_X0_sense h0  x0 post) (sz : Nat) : Met l yX0_sense (wu yX0_sense cX0_sense 1 (some .int)) (rX0_sense) (x_Pc G [.ref x0] h0 sz) (x_Qi G h0 sz (fun r9 h9 => h9 = h0 ∧ post r9)) 0 0 (x_A h0 sz) := by
  refine Met.ofW (cc := cX0_sense) (maxL := 1) (ret := (some .int)) (by decide) rfl ?_
  intro p e s m args below meth c s₁ B hml hv
  obtain ⟨rfl, hsz, hR, hK⟩ := hv
  subst hsz
  have C : CX p s m _ meth c G RX0 cX0_sense 1 (some .int) := ⟨B.exec, B.bytes, B.returns, hml, findClass_of_methodNamed B.named, x_hg (atoms_spec (ws := wu yX0_sense cX0_sense 1 (some .int)) B.pre), B.notSynchronized, hK⟩
  obtain ⟨hx, hb, hr, hml, hown, hg, hlocks, hK⟩ := id C
  have hI : x_I G (x_A h0 s.heap.size) s.heap h0 s.heap [] := x_I.start hR
  have hkc : 0 + 0 ≤ 0 := by omega
  have hks : 0 + 0 ≤ 0 := by omega
  have hl := lv_entry ([.ref x0]) (n := 1) (Nat.le_of_ble_eq_true rfl)
  rw [lg_entry_eq]
  generalize (lg_sl ([.ref x0]) ++ List.replicate (1 - (lg_sl ([.ref x0])).length) Slot.unset).toArray = ls at hl ⊢
  have hl : lv_has ls 1 [(0, .ref x0)] := hl
  unfold wp_X0_sense at hw
  refine lv_aload_n hx hb dX0_sense_0 rfl (lv_at hl 0 rfl) ?_
  obtain ⟨fs_1, he_1, hw⟩ := hw
  obtain ⟨v_1, hv_1, hw⟩ := hw
  refine x_get (ci := 0) (C := RX0) (T := TX0) (N := 3) hx hb hg ku_X0 hown hK hI he_1 rfl 0 (by decide) (hg _ kf_X0_7) (fun _ h9 => h9) hv_1 dX0_sense_1 ?_
  obtain ⟨fs_4, he_4, hw⟩ := hw
  refine x_ci (va_runV (As := []) (rest := []) ⟨hx, hb, hml, hown, hg⟩ (m_X5_sense l G h0  v_1 _ hw s.heap.size) (cwV 0 hg (x_gV km_X0_16 ki_X5_sense kz_X5_X5_sense kn_X5 kk_X5_sense) rfl rfl rfl (by decide +kernel) ⟨Nat.le_of_ble_eq_true rfl, Nat.le_of_ble_eq_true rfl⟩) ⟨x_blind, x_recv hI hK he_4 rfl rfl, x_pre hI hK⟩ rfl rfl hl.1 rfl (lv_room (Nat.le_of_ble_eq_true rfl)) dX0_sense_4 ⟨show 0 + 0 ≤ 0 by omega, show 0 + 0 ≤ 0 by omega⟩) hI (fun r_4 h_4 H locs hw hI => ?_)
  obtain ⟨eh_4, hw⟩ := hw
  rw [eh_4] at hI
  exact x_iret hx hb hr hlocks hI ⟨rfl, hw⟩ (by omega) (by omega) dX0_sense_7
-- ===== ExactFilter$Fraction.bringToLowestTerms
abbrev rX0_bringToLowestTerms (mc ms : Nat) : Room := { frames := 6, cells := mc, slots := ms, locals := 149 }
def wp_X0_bringToLowestTerms (h0 : xH) (mc ms : Nat) (x0 : Nat) (post : xH → Prop) : Prop := ∃ fs_1 : List Value, h0 x0 = some (.inr (0, fs_1)) ∧ ∃ v_1 : Int32, fs_1[2]? = some (.int v_1) ∧ (v_1 = 0 → ∃ v_9 : Nat, fs_1[1]? = some (.ref v_9) ∧ ∃ v_13 : Nat, fs_1[0]? = some (.ref v_13) ∧ ∃ mc_16 ms_16 : Nat, mc_16 ≤ mc ∧ ms_16 ≤ ms ∧ wp_X5_commonDivisor h0 mc_16 ms_16 v_9 v_13 (fun (r_16 : Nat) (h_16 : xH) => ∃ fs_22 : List Value, h_16 x0 = some (.inr (0, fs_22)) ∧ ∃ v_22 : Nat, fs_22[0]? = some (.ref v_22) ∧ ∃ fs_26 : List Value, h_16 v_22 = some (.inr (5, fs_26)) ∧ ∃ mc_26 ms_26 : Nat, mc_26 ≤ (mc - mc_16) ∧ ms_26 ≤ (ms - ms_16) ∧ wp_X5_dividedBy h_16 mc_26 ms_26 v_22 r_16 (fun (r_26 : Nat) (h_26 : xH) => ∃ fs_29 : List Value, h_26 x0 = some (.inr (0, fs_29)) ∧ 0 < (fs_29 : List Value).length ∧ ∀ h_29 : xH, h_29 = x_up h_26 x0 (.inr (0, (fs_29 : List Value).set 0 (.ref r_26))) → ∃ v_34 : Nat, ((fs_29 : List Value).set 0 (.ref r_26) : List Value)[1]? = some (.ref v_34) ∧ ∃ fs_38 : List Value, h_29 v_34 = some (.inr (5, fs_38)) ∧ ∃ mc_38 ms_38 : Nat, mc_38 ≤ ((mc - mc_16) - mc_26) ∧ ms_38 ≤ ((ms - ms_16) - ms_26) ∧ wp_X5_dividedBy h_29 mc_38 ms_38 v_34 r_16 (fun (r_38 : Nat) (h_38 : xH) => ∃ fs_41 : List Value, h_38 x0 = some (.inr (0, fs_41)) ∧ 1 < (fs_41 : List Value).length ∧ ∀ h_41 : xH, h_41 = x_up h_38 x0 (.inr (0, (fs_41 : List Value).set 1 (.ref r_38))) → 2 < ((fs_41 : List Value).set 1 (.ref r_38) : List Value).length ∧ ∀ h_46 : xH, h_46 = x_up h_41 x0 (.inr (0, ((fs_41 : List Value).set 1 (.ref r_38) : List Value).set 2 (.int 1))) → post h_46)))) ∧ (¬ v_1 = 0 → post h0)
set_option maxHeartbeats 4000000 in
set_option maxRecDepth 100000 in
theorem m_X0_bringToLowestTerms (l : Launch) (G : xG) (h0 : xH) (mc ms : Nat) (x0 : Nat) (post : xH → Prop) (hw : wp_X0_bringToLowestTerms h0 mc ms x0 post) (sz : Nat) : Met l yX0_bringToLowestTerms (wu yX0_bringToLowestTerms cX0_bringToLowestTerms 2 none) (rX0_bringToLowestTerms mc ms) (x_Pc G [.ref x0] h0 sz) (x_Qv G h0 sz post) mc ms (x_A h0 sz) := by
  refine Met.ofW (cc := cX0_bringToLowestTerms) (maxL := 2) (ret := none) (by decide) rfl ?_
  intro p e s m args below meth c s₁ B hml hv
  obtain ⟨rfl, hsz, hR, hK⟩ := hv
  subst hsz
  have C : CX p s m _ meth c G RX0 cX0_bringToLowestTerms 2 none := ⟨B.exec, B.bytes, B.returns, hml, findClass_of_methodNamed B.named, x_hg (atoms_spec (ws := wu yX0_bringToLowestTerms cX0_bringToLowestTerms 2 none) B.pre), B.notSynchronized, hK⟩
  obtain ⟨hx, hb, hr, hml, hown, hg, hlocks, hK⟩ := id C
  have hI : x_I G (x_A h0 s.heap.size) s.heap h0 s.heap [] := x_I.start hR
  have hkc : 0 + mc ≤ mc := by omega
  have hks : 0 + ms ≤ ms := by omega
  have hl := lv_entry ([.ref x0]) (n := 2) (Nat.le_of_ble_eq_true rfl)
  rw [lg_entry_eq]
  generalize (lg_sl ([.ref x0]) ++ List.replicate (2 - (lg_sl ([.ref x0])).length) Slot.unset).toArray = ls at hl ⊢
  have hl : lv_has ls 2 [(0, .ref x0)] := hl
  unfold wp_X0_bringToLowestTerms at hw
  refine lv_aload_n hx hb dX0_bringToLowestTerms_0 rfl (lv_at hl 0 rfl) ?_
  obtain ⟨fs_1, he_1, hw⟩ := hw
  obtain ⟨v_1, hv_1, hw⟩ := hw
  refine x_get (ci := 0) (C := RX0) (T := TX0) (N := 3) hx hb hg ku_X0 hown hK hI he_1 rfl 2 (by decide) (hg _ kf_X0_22) (fun _ h9 => h9) hv_1 dX0_bringToLowestTerms_1 ?_
  refine lv_if_eq (tgt := 8) hx hb dX0_bringToLowestTerms_4 (by decide) (fun hc4 => ?_) (fun hc4 => ?_)
  · have hw := hw.1 hc4
    refine lv_aload_n hx hb dX0_bringToLowestTerms_8 rfl (lv_at hl 0 rfl) ?_
    obtain ⟨v_9, hv_9, hw⟩ := hw
    refine x_get (ci := 0) (C := RX0) (T := TX0) (N := 3) hx hb hg ku_X0 hown hK hI he_1 rfl 1 (by decide) (hg _ kf_X0_13) (fun _ h9 => h9) hv_9 dX0_bringToLowestTerms_9 ?_
    refine lv_aload_n hx hb dX0_bringToLowestTerms_12 rfl (lv_at hl 0 rfl) ?_
    obtain ⟨v_13, hv_13, hw⟩ := hw
    refine x_get (ci := 0) (C := RX0) (T := TX0) (N := 3) hx hb hg ku_X0 hown hK hI he_1 rfl 0 (by decide) (hg _ kf_X0_7) (fun _ h9 => h9) hv_13 dX0_bringToLowestTerms_13 ?_
    obtain ⟨mc_16, ms_16, hkc1, hks1, hw⟩ := hw
    refine x_cr (va_runS (As := [.ref v_9, .ref v_13]) (rest := []) ⟨hx, hb, hml, hown, hg⟩ (m_X5_commonDivisor l G h0 mc_16 ms_16 v_9 v_13 _ hw s.heap.size) (va_cwS 2 hg (x_gS km_X0_26 ks_X5_commonDivisor kn_X5 kk_X5_commonDivisor) rfl rfl rfl (by decide +kernel) ⟨Nat.le_of_ble_eq_true rfl, Nat.le_of_ble_eq_true rfl⟩) ⟨x_blind, x_pre hI hK⟩ rfl rfl hl.1 rfl (lv_room (Nat.le_of_ble_eq_true rfl)) dX0_bringToLowestTerms_16 ⟨show 0 + mc_16 ≤ mc by omega, show 0 + ms_16 ≤ ms by omega⟩) hI (fun r_16 h_16 H locs hw hI => ?_)
    refine lv_astore_n (lv' := [(1, .ref r_16), (0, .ref x0)]) hx hb dX0_bringToLowestTerms_19 rfl hl (by decide) rfl (fun ls hl => ?_)
    refine lv_aload_n hx hb dX0_bringToLowestTerms_20 rfl (lv_at hl 1 rfl) ?_
    refine lv_aload_n hx hb dX0_bringToLowestTerms_21 rfl (lv_at hl 1 rfl) ?_
    obtain ⟨fs_22, he_22, hw⟩ := hw
    obtain ⟨v_22, hv_22, hw⟩ := hw
    refine x_get (ci := 0) (C := RX0) (T := TX0) (N := 3) hx hb hg ku_X0 hown hK hI he_22 rfl 0 (by decide) (hg _ kf_X0_7) (fun _ h9 => h9) hv_22 dX0_bringToLowestTerms_22 ?_
    refine lv_aload_n hx hb dX0_bringToLowestTerms_25 rfl (lv_at hl 0 rfl) ?_
    obtain ⟨fs_26, he_26, hw⟩ := hw
    obtain ⟨mc_26, ms_26, hkc1, hks1, hw⟩ := hw
    refine x_cr (va_runV (As := [.ref r_16]) (rest := [.ref x0]) ⟨hx, hb, hml, hown, hg⟩ (m_X5_dividedBy l G h_16 mc_26 ms_26 v_22 r_16 _ hw H.size) (cwV 1 hg (x_gV km_X0_30 ki_X5_dividedBy kz_X5_X5_dividedBy kn_X5 kk_X5_dividedBy) rfl rfl rfl (by decide +kernel) ⟨Nat.le_of_ble_eq_true rfl, Nat.le_of_ble_eq_true rfl⟩) ⟨x_blind, x_recv hI hK he_26 rfl rfl, x_pre hI hK⟩ rfl rfl hl.1 rfl (lv_room (Nat.le_of_ble_eq_true rfl)) dX0_bringToLowestTerms_26 ⟨show 0 + mc_16 + mc_26 ≤ mc by omega, show 0 + ms_16 + ms_26 ≤ ms by omega⟩) hI (fun r_26 h_26 H locs hw hI => ?_)
    obtain ⟨fs_29, he_29, hw⟩ := hw
    obtain ⟨hlen29, hw⟩ := hw
    refine x_put (ci := 0) (v := .ref r_26) (ty := .object "ExactFilter$Whole") (C := RX0) (T := TX0) (N := 3) hx hb hg ku_X0 tyX0 tyX0_ok nmX0 hown hK hI he_29 rfl 0 (by decide) (hg _ kf_X0_7) (fun _ h9 => h9) rfl (by decide +kernel) rfl rfl hlen29 dX0_bringToLowestTerms_29 (fun H locs hI => ?_)
    have hI : x_I G (x_A h0 s.heap.size) s.heap (x_up h_26 x0 (.inr (0, (fs_29 : List Value).set 0 (.ref r_26)))) H locs := hI
    obtain ⟨h_29, eh_29⟩ : ∃ z : xH, z = x_up h_26 x0 (.inr (0, (fs_29 : List Value).set 0 (.ref r_26))) := ⟨_, rfl⟩
    rw [← eh_29] at hI
    have hw := hw h_29 eh_29
    have heh_29 : h_29 x0 = some (.inr (0, (fs_29 : List Value).set 0 (.ref r_26))) := by rw [eh_29]; exact x_up_s
    refine lv_aload_n hx hb dX0_bringToLowestTerms_32 rfl (lv_at hl 1 rfl) ?_
    refine lv_aload_n hx hb dX0_bringToLowestTerms_33 rfl (lv_at hl 1 rfl) ?_
    obtain ⟨v_34, hv_34, hw⟩ := hw
    refine x_get (ci := 0) (C := RX0) (T := TX0) (N := 3) hx hb hg ku_X0 hown hK hI heh_29 rfl 1 (by decide) (hg _ kf_X0_13) (fun _ h9 => h9) hv_34 dX0_bringToLowestTerms_34 ?_
    refine lv_aload_n hx hb dX0_bringToLowestTerms_37 rfl (lv_at hl 0 rfl) ?_
    obtain ⟨fs_38, he_38, hw⟩ := hw
    obtain ⟨mc_38, ms_38, hkc1, hks1, hw⟩ := hw
    refine x_cr (va_runV (As := [.ref r_16]) (rest := [.ref x0]) ⟨hx, hb, hml, hown, hg⟩ (m_X5_dividedBy l G h_29 mc_38 ms_38 v_34 r_16 _ hw H.size) (cwV 1 hg (x_gV km_X0_30 ki_X5_dividedBy kz_X5_X5_dividedBy kn_X5 kk_X5_dividedBy) rfl rfl rfl (by decide +kernel) ⟨Nat.le_of_ble_eq_true rfl, Nat.le_of_ble_eq_true rfl⟩) ⟨x_blind, x_recv hI hK he_38 rfl rfl, x_pre hI hK⟩ rfl rfl hl.1 rfl (lv_room (Nat.le_of_ble_eq_true rfl)) dX0_bringToLowestTerms_38 ⟨show 0 + mc_16 + mc_26 + mc_38 ≤ mc by omega, show 0 + ms_16 + ms_26 + ms_38 ≤ ms by omega⟩) hI (fun r_38 h_38 H locs hw hI => ?_)
    obtain ⟨fs_41, he_41, hw⟩ := hw
    obtain ⟨hlen41, hw⟩ := hw
    refine x_put (ci := 0) (v := .ref r_38) (ty := .object "ExactFilter$Whole") (C := RX0) (T := TX0) (N := 3) hx hb hg ku_X0 tyX0 tyX0_ok nmX0 hown hK hI he_41 rfl 1 (by decide) (hg _ kf_X0_13) (fun _ h9 => h9) rfl (by decide +kernel) rfl rfl hlen41 dX0_bringToLowestTerms_41 (fun H locs hI => ?_)
    have hI : x_I G (x_A h0 s.heap.size) s.heap (x_up h_38 x0 (.inr (0, (fs_41 : List Value).set 1 (.ref r_38)))) H locs := hI
    obtain ⟨h_41, eh_41⟩ : ∃ z : xH, z = x_up h_38 x0 (.inr (0, (fs_41 : List Value).set 1 (.ref r_38))) := ⟨_, rfl⟩
    rw [← eh_41] at hI
    have hw := hw h_41 eh_41
    have heh_41 : h_41 x0 = some (.inr (0, (fs_41 : List Value).set 1 (.ref r_38))) := by rw [eh_41]; exact x_up_s
    refine lv_aload_n hx hb dX0_bringToLowestTerms_44 rfl (lv_at hl 1 rfl) ?_
    refine lv_iconst (v := 1) hx hb dX0_bringToLowestTerms_45 (by decide) ?_
    obtain ⟨hlen46, hw⟩ := hw
    refine x_put (ci := 0) (v := .int 1) (ty := .boolean) (C := RX0) (T := TX0) (N := 3) hx hb hg ku_X0 tyX0 tyX0_ok nmX0 hown hK hI heh_41 rfl 2 (by decide) (hg _ kf_X0_22) (fun _ h9 => h9) rfl (by decide +kernel) rfl rfl hlen46 dX0_bringToLowestTerms_46 (fun H locs hI => ?_)
    have hI : x_I G (x_A h0 s.heap.size) s.heap (x_up h_41 x0 (.inr (0, ((fs_41 : List Value).set 1 (.ref r_38) : List Value).set 2 (.int 1)))) H locs := hI
    obtain ⟨h_46, eh_46⟩ : ∃ z : xH, z = x_up h_41 x0 (.inr (0, ((fs_41 : List Value).set 1 (.ref r_38) : List Value).set 2 (.int 1))) := ⟨_, rfl⟩
    rw [← eh_46] at hI
    have hw := hw h_46 eh_46
    have heh_46 : h_46 x0 = some (.inr (0, ((fs_41 : List Value).set 1 (.ref r_38) : List Value).set 2 (.int 1))) := by rw [eh_46]; exact x_up_s
    exact x_vret hx hb hr hlocks hI hw (by omega) (by omega) dX0_bringToLowestTerms_49
  · have hw := hw.2 hc4
    exact x_vret hx hb hr hlocks hI hw (by omega) (by omega) dX0_bringToLowestTerms_7
-- ===== ExactFilter$Fraction.against
abbrev rX0_against (mc ms : Nat) : Room := { frames := 3, cells := mc, slots := ms, locals := 73 }
def wp_X0_against (h0 : xH) (mc ms : Nat) (x0 : Nat) (x1 : Int32) (x2 : Int32) (post : Int32 → xH → Prop) : Prop := ∃ fs_1 : List Value, h0 x0 = some (.inr (0, fs_1)) ∧ ∃ v_1 : Nat, fs_1[0]? = some (.ref v_1) ∧ ∃ mc_6 ms_6 : Nat, mc_6 ≤ mc ∧ ms_6 ≤ ms ∧ wp_X5_of h0 mc_6 ms_6 ((x2 : Int32).toInt64) (fun (r_6 : Nat) (h_6 : xH) => ∃ fs_9 : List Value, h_6 v_1 = some (.inr (5, fs_9)) ∧ ∃ mc_9 ms_9 : Nat, mc_9 ≤ (mc - mc_6) ∧ ms_9 ≤ (ms - ms_6) ∧ wp_X5_times h_6 mc_9 ms_9 v_1 r_6 (fun (r_9 : Nat) (h_9 : xH) => ∃ fs_14 : List Value, h_9 x0 = some (.inr (0, fs_14)) ∧ ∃ v_14 : Nat, fs_14[1]? = some (.ref v_14) ∧ ∃ mc_19 ms_19 : Nat, mc_19 ≤ ((mc - mc_6) - mc_9) ∧ ms_19 ≤ ((ms - ms_6) - ms_9) ∧ wp_X5_of h_9 mc_19 ms_19 ((x1 : Int32).toInt64) (fun (r_19 : Nat) (h_19 : xH) => ∃ fs_22 : List Value, h_19 v_14 = some (.inr (5, fs_22)) ∧ ∃ mc_22 ms_22 : Nat, mc_22 ≤ (((mc - mc_6) - mc_9) - mc_19) ∧ ms_22 ≤ (((ms - ms_6) - ms_9) - ms_19) ∧ wp_X5_times h_19 mc_22 ms_22 v_14 r_19 (fun (r_22 : Nat) (h_22 : xH) => ∃ fs_30 : List Value, h_22 r_22 = some (.inr (5, fs_30)) ∧ ∃ mc_30 ms_30 : Nat, mc_30 ≤ ((((mc - mc_6) - mc_9) - mc_19) - mc_22) ∧ ms_30 ≤ ((((ms - ms_6) - ms_9) - ms_19) - ms_22) ∧ wp_X5_negative h_22 mc_30 ms_30 r_22 (fun (r_30 : Nat) (h_30 : xH) => ∃ fs_33 : List Value, h_30 r_9 = some (.inr (5, fs_33)) ∧ ∃ mc_33 ms_33 : Nat, mc_33 ≤ (((((mc - mc_6) - mc_9) - mc_19) - mc_22) - mc_30) ∧ ms_33 ≤ (((((ms - ms_6) - ms_9) - ms_19) - ms_22) - ms_30) ∧ wp_X5_plus h_30 mc_33 ms_33 r_9 r_30 (fun (r_33 : Nat) (h_33 : xH) => ∃ fs_36 : List Value, h_33 r_33 = some (.inr (5, fs_36)) ∧ wp_X5_sense h_33  r_33 (fun (r_36 : Int32) => post r_36 h_33)))))))
set_option maxHeartbeats 4000000 in
set_option maxRecDepth 100000 in
theorem m_X0_against (l : Launch) (G : xG) (h0 : xH) (mc ms : Nat) (x0 : Nat) (x1 : Int32) (x2 : Int32) (post : Int32 → xH → Prop) (hw : wp_X0_against h0 mc ms x0 x1 x2 post) (sz : Nat) : Met l yX0_against (wu yX0_against cX0_against 5 (some .int)) (rX0_against mc ms) (x_Pc G [.ref x0, .int x1, .int x2] h0 sz) (x_Qi G h0 sz post) mc ms (x_A h0 sz) := by
  refine Met.ofW (cc := cX0_against) (maxL := 5) (ret := (some .int)) (by decide) rfl ?_
  intro p e s m args below meth c s₁ B hml hv
  obtain ⟨rfl, hsz, hR, hK⟩ := hv
  subst hsz
  have C : CX p s m _ meth c G RX0 cX0_against 5 (some .int) := ⟨B.exec, B.bytes, B.returns, hml, findClass_of_methodNamed B.named, x_hg (atoms_spec (ws := wu yX0_against cX0_against 5 (some .int)) B.pre), B.notSynchronized, hK⟩
  obtain ⟨hx, hb, hr, hml, hown, hg, hlocks, hK⟩ := id C
  have hI : x_I G (x_A h0 s.heap.size) s.heap h0 s.heap [] := x_I.start hR
  have hkc : 0 + mc ≤ mc := by omega
  have hks : 0 + ms ≤ ms := by omega
  have hl := lv_entry ([.ref x0, .int x1, .int x2]) (n := 5) (Nat.le_of_ble_eq_true rfl)
  rw [lg_entry_eq]
  generalize (lg_sl ([.ref x0, .int x1, .int x2]) ++ List.replicate (5 - (lg_sl ([.ref x0, .int x1, .int x2])).length) Slot.unset).toArray = ls at hl ⊢
  have hl : lv_has ls 5 [(0, .ref x0), (1, .int x1), (2, .int x2)] := hl
  unfold wp_X0_against at hw
  refine lv_aload_n hx hb dX0_against_0 rfl (lv_at hl 0 rfl) ?_
  obtain ⟨fs_1, he_1, hw⟩ := hw
  obtain ⟨v_1, hv_1, hw⟩ := hw
  refine x_get (ci := 0) (C := RX0) (T := TX0) (N := 3) hx hb hg ku_X0 hown hK hI he_1 rfl 0 (by decide) (hg _ kf_X0_7) (fun _ h9 => h9) hv_1 dX0_against_1 ?_
  refine lv_iload_n hx hb dX0_against_4 rfl (lv_at hl 2 rfl) ?_
  refine lv_i2l (v := (x2 : Int32).toInt64) hx hb dX0_against_5 rfl ?_
  obtain ⟨mc_6, ms_6, hkc1, hks1, hw⟩ := hw
  refine x_cr (va_runS (As := [.long ((x2 : Int32).toInt64)]) (rest := [.ref v_1]) ⟨hx, hb, hml, hown, hg⟩ (m_X5_of l G h0 mc_6 ms_6 ((x2 : Int32).toInt64) _ hw s.heap.size) (va_cwS 1 hg (x_gS km_X0_34 ks_X5_of kn_X5 kk_X5_of) rfl rfl rfl (by decide +kernel) ⟨Nat.le_of_ble_eq_true rfl, Nat.le_of_ble_eq_true rfl⟩) ⟨x_blind, x_pre hI hK⟩ rfl rfl hl.1 rfl (lv_room (Nat.le_of_ble_eq_true rfl)) dX0_against_6 ⟨show 0 + mc_6 ≤ mc by omega, show 0 + ms_6 ≤ ms by omega⟩) hI (fun r_6 h_6 H locs hw hI => ?_)
  obtain ⟨fs_9, he_9, hw⟩ := hw
  obtain ⟨mc_9, ms_9, hkc1, hks1, hw⟩ := hw
  refine x_cr (va_runV (As := [.ref r_6]) (rest := []) ⟨hx, hb, hml, hown, hg⟩ (m_X5_times l G h_6 mc_9 ms_9 v_1 r_6 _ hw H.size) (cwV 1 hg (x_gV km_X0_38 ki_X5_times kz_X5_X5_times kn_X5 kk_X5_times) rfl rfl rfl (by decide +kernel) ⟨Nat.le_of_ble_eq_true rfl, Nat.le_of_ble_eq_true rfl⟩) ⟨x_blind, x_recv hI hK he_9 rfl rfl, x_pre hI hK⟩ rfl rfl hl.1 rfl (lv_room (Nat.le_of_ble_eq_true rfl)) dX0_against_9 ⟨show 0 + mc_6 + mc_9 ≤ mc by omega, show 0 + ms_6 + ms_9 ≤ ms by omega⟩) hI (fun r_9 h_9 H locs hw hI => ?_)
  refine lv_astore_n (lv' := [(3, .ref r_9), (0, .ref x0), (1, .int x1), (2, .int x2)]) hx hb dX0_against_12 rfl hl (by decide) rfl (fun ls hl => ?_)
  refine lv_aload_n hx hb dX0_against_13 rfl (lv_at hl 1 rfl) ?_
  obtain ⟨fs_14, he_14, hw⟩ := hw
  obtain ⟨v_14, hv_14, hw⟩ := hw
  refine x_get (ci := 0) (C := RX0) (T := TX0) (N := 3) hx hb hg ku_X0 hown hK hI he_14 rfl 1 (by decide) (hg _ kf_X0_13) (fun _ h9 => h9) hv_14 dX0_against_14 ?_
  refine lv_iload_n hx hb dX0_against_17 rfl (lv_at hl 2 rfl) ?_
  refine lv_i2l (v := (x1 : Int32).toInt64) hx hb dX0_against_18 rfl ?_
  obtain ⟨mc_19, ms_19, hkc1, hks1, hw⟩ := hw
  refine x_cr (va_runS (As := [.long ((x1 : Int32).toInt64)]) (rest := [.ref v_14]) ⟨hx, hb, hml, hown, hg⟩ (m_X5_of l G h_9 mc_19 ms_19 ((x1 : Int32).toInt64) _ hw H.size) (va_cwS 1 hg (x_gS km_X0_34 ks_X5_of kn_X5 kk_X5_of) rfl rfl rfl (by decide +kernel) ⟨Nat.le_of_ble_eq_true rfl, Nat.le_of_ble_eq_true rfl⟩) ⟨x_blind, x_pre hI hK⟩ rfl rfl hl.1 rfl (lv_room (Nat.le_of_ble_eq_true rfl)) dX0_against_19 ⟨show 0 + mc_6 + mc_9 + mc_19 ≤ mc by omega, show 0 + ms_6 + ms_9 + ms_19 ≤ ms by omega⟩) hI (fun r_19 h_19 H locs hw hI => ?_)
  obtain ⟨fs_22, he_22, hw⟩ := hw
  obtain ⟨mc_22, ms_22, hkc1, hks1, hw⟩ := hw
  refine x_cr (va_runV (As := [.ref r_19]) (rest := []) ⟨hx, hb, hml, hown, hg⟩ (m_X5_times l G h_19 mc_22 ms_22 v_14 r_19 _ hw H.size) (cwV 1 hg (x_gV km_X0_38 ki_X5_times kz_X5_X5_times kn_X5 kk_X5_times) rfl rfl rfl (by decide +kernel) ⟨Nat.le_of_ble_eq_true rfl, Nat.le_of_ble_eq_true rfl⟩) ⟨x_blind, x_recv hI hK he_22 rfl rfl, x_pre hI hK⟩ rfl rfl hl.1 rfl (lv_room (Nat.le_of_ble_eq_true rfl)) dX0_against_22 ⟨show 0 + mc_6 + mc_9 + mc_19 + mc_22 ≤ mc by omega, show 0 + ms_6 + ms_9 + ms_19 + ms_22 ≤ ms by omega⟩) hI (fun r_22 h_22 H locs hw hI => ?_)
  refine lv_astore (lv' := [(4, .ref r_22), (3, .ref r_9), (0, .ref x0), (1, .int x1), (2, .int x2)]) hx hb dX0_against_25 hl (by decide) rfl (fun ls hl => ?_)
  refine lv_aload_n hx hb dX0_against_27 rfl (lv_at hl 1 rfl) ?_
  refine lv_aload hx hb dX0_against_28 (lv_at hl 0 rfl) ?_
  obtain ⟨fs_30, he_30, hw⟩ := hw
  obtain ⟨mc_30, ms_30, hkc1, hks1, hw⟩ := hw
  refine x_cr (va_runV (As := []) (rest := [.ref r_9]) ⟨hx, hb, hml, hown, hg⟩ (m_X5_negative l G h_22 mc_30 ms_30 r_22 _ hw H.size) (cwV 0 hg (x_gV km_X0_41 ki_X5_negative kz_X5_X5_negative kn_X5 kk_X5_negative) rfl rfl rfl (by decide +kernel) ⟨Nat.le_of_ble_eq_true rfl, Nat.le_of_ble_eq_true rfl⟩) ⟨x_blind, x_recv hI hK he_30 rfl rfl, x_pre hI hK⟩ rfl rfl hl.1 rfl (lv_room (Nat.le_of_ble_eq_true rfl)) dX0_against_30 ⟨show 0 + mc_6 + mc_9 + mc_19 + mc_22 + mc_30 ≤ mc by omega, show 0 + ms_6 + ms_9 + ms_19 + ms_22 + ms_30 ≤ ms by omega⟩) hI (fun r_30 h_30 H locs hw hI => ?_)
  obtain ⟨fs_33, he_33, hw⟩ := hw
  obtain ⟨mc_33, ms_33, hkc1, hks1, hw⟩ := hw
  refine x_cr (va_runV (As := [.ref r_30]) (rest := []) ⟨hx, hb, hml, hown, hg⟩ (m_X5_plus l G h_30 mc_33 ms_33 r_9 r_30 _ hw H.size) (cwV 1 hg (x_gV km_X0_45 ki_X5_plus kz_X5_X5_plus kn_X5 kk_X5_plus) rfl rfl rfl (by decide +kernel) ⟨Nat.le_of_ble_eq_true rfl, Nat.le_of_ble_eq_true rfl⟩) ⟨x_blind, x_recv hI hK he_33 rfl rfl, x_pre hI hK⟩ rfl rfl hl.1 rfl (lv_room (Nat.le_of_ble_eq_true rfl)) dX0_against_33 ⟨show 0 + mc_6 + mc_9 + mc_19 + mc_22 + mc_30 + mc_33 ≤ mc by omega, show 0 + ms_6 + ms_9 + ms_19 + ms_22 + ms_30 + ms_33 ≤ ms by omega⟩) hI (fun r_33 h_33 H locs hw hI => ?_)
  obtain ⟨fs_36, he_36, hw⟩ := hw
  refine x_ci (va_runV (As := []) (rest := []) ⟨hx, hb, hml, hown, hg⟩ (m_X5_sense l G h_33  r_33 _ hw H.size) (cwV 0 hg (x_gV km_X0_16 ki_X5_sense kz_X5_X5_sense kn_X5 kk_X5_sense) rfl rfl rfl (by decide +kernel) ⟨Nat.le_of_ble_eq_true rfl, Nat.le_of_ble_eq_true rfl⟩) ⟨x_blind, x_recv hI hK he_36 rfl rfl, x_pre hI hK⟩ rfl rfl hl.1 rfl (lv_room (Nat.le_of_ble_eq_true rfl)) dX0_against_36 ⟨show 0 + mc_6 + mc_9 + mc_19 + mc_22 + mc_30 + mc_33 + 0 ≤ mc by omega, show 0 + ms_6 + ms_9 + ms_19 + ms_22 + ms_30 + ms_33 + 0 ≤ ms by omega⟩) hI (fun r_36 h_36 H locs hw hI => ?_)
  obtain ⟨eh_36, hw⟩ := hw
  rw [eh_36] at hI
  exact x_iret hx hb hr hlocks hI hw (by omega) (by omega) dX0_against_39
-- ===== ExactFilter$Fraction.multipleDown
abbrev rX0_multipleDown (mc ms : Nat) : Room := { frames := 6, cells := mc, slots := ms, locals := 145 }
def wj_X0_multipleDown_39  (post : Int64 → xH → Prop)  (h : xH) (kc : Nat) (ks : Nat) (x0 : Nat) (x2 : Nat) : Prop := ∃ fs_41 : List Value, h x0 = some (.inr (0, fs_41)) ∧ ∃ v_41 : Nat, fs_41[1]? = some (.ref v_41) ∧ ∃ fs_44 : List Value, h x2 = some (.inr (5, fs_44)) ∧ ∃ mc_44 ms_44 : Nat, mc_44 ≤ kc ∧ ms_44 ≤ ks ∧ wp_X5_dividedBy h mc_44 ms_44 x2 v_41 (fun (r_44 : Nat) (h_44 : xH) => ∃ mc_52 ms_52 : Nat, mc_52 ≤ (kc - mc_44) ∧ ms_52 ≤ (ks - ms_44) ∧ wp_X5_of h_44 mc_52 ms_52 1000000000000000000 (fun (r_52 : Nat) (h_52 : xH) => ∃ fs_55 : List Value, h_52 r_44 = some (.inr (5, fs_55)) ∧ wp_X5_sizeAgainst h_52  r_44 r_52 (fun (r_55 : Int32) => (r_55 < 0 → wp_X5_asLong h_52  r_44 (fun (r_72 : Int64) => post r_72 h_52)) ∧ (¬ r_55 < 0 → wp_X5_sense h_52  r_44 (fun (r_62 : Int32) => post (((r_62 : Int32).toInt64) * 1000000000000000000) h_52)))))
def wp_X0_multipleDown (h0 : xH) (mc ms : Nat) (x0 : Nat) (x1 : Int32) (post : Int64 → xH → Prop) : Prop := ∃ fs_1 : List Value, h0 x0 = some (.inr (0, fs_1)) ∧ ∃ v_1 : Nat, fs_1[0]? = some (.ref v_1) ∧ ∃ mc_6 ms_6 : Nat, mc_6 ≤ mc ∧ ms_6 ≤ ms ∧ wp_X5_of h0 mc_6 ms_6 ((x1 : Int32).toInt64) (fun (r_6 : Nat) (h_6 : xH) => ∃ fs_9 : List Value, h_6 v_1 = some (.inr (5, fs_9)) ∧ ∃ mc_9 ms_9 : Nat, mc_9 ≤ (mc - mc_6) ∧ ms_9 ≤ (ms - ms_6) ∧ wp_X5_times h_6 mc_9 ms_9 v_1 r_6 (fun (r_9 : Nat) (h_9 : xH) => ∃ fs_14 : List Value, h_9 r_9 = some (.inr (5, fs_14)) ∧ wp_X5_sense h_9  r_9 (fun (r_14 : Int32) => (0 ≤ r_14 → wj_X0_multipleDown_39  post  h_9 ((mc - mc_6) - mc_9) ((ms - ms_6) - ms_9) x0 r_9) ∧ (¬ 0 ≤ r_14 → ∃ fs_22 : List Value, h_9 x0 = some (.inr (0, fs_22)) ∧ ∃ v_22 : Nat, fs_22[1]? = some (.ref v_22) ∧ ∃ fs_25 : List Value, h_9 v_22 = some (.inr (5, fs_25)) ∧ ∃ mc_25 ms_25 : Nat, mc_25 ≤ ((mc - mc_6) - mc_9) ∧ ms_25 ≤ ((ms - ms_6) - ms_9) ∧ wp_X5_negative h_9 mc_25 ms_25 v_22 (fun (r_25 : Nat) (h_25 : xH) => ∃ fs_28 : List Value, h_25 r_9 = some (.inr (5, fs_28)) ∧ ∃ mc_28 ms_28 : Nat, mc_28 ≤ (((mc - mc_6) - mc_9) - mc_25) ∧ ms_28 ≤ (((ms - ms_6) - ms_9) - ms_25) ∧ wp_X5_plus h_25 mc_28 ms_28 r_9 r_25 (fun (r_28 : Nat) (h_28 : xH) => ∃ mc_32 ms_32 : Nat, mc_32 ≤ ((((mc - mc_6) - mc_9) - mc_25) - mc_28) ∧ ms_32 ≤ ((((ms - ms_6) - ms_9) - ms_25) - ms_28) ∧ wp_X5_of h_28 mc_32 ms_32 1 (fun (r_32 : Nat) (h_32 : xH) => ∃ fs_35 : List Value, h_32 r_28 = some (.inr (5, fs_35)) ∧ ∃ mc_35 ms_35 : Nat, mc_35 ≤ (((((mc - mc_6) - mc_9) - mc_25) - mc_28) - mc_32) ∧ ms_35 ≤ (((((ms - ms_6) - ms_9) - ms_25) - ms_28) - ms_32) ∧ wp_X5_plus h_32 mc_35 ms_35 r_28 r_32 (fun (r_35 : Nat) (h_35 : xH) => wj_X0_multipleDown_39  post  h_35 ((((((mc - mc_6) - mc_9) - mc_25) - mc_28) - mc_32) - mc_35) ((((((ms - ms_6) - ms_9) - ms_25) - ms_28) - ms_32) - ms_35) x0 r_35))))))))
set_option maxHeartbeats 4000000 in
set_option maxRecDepth 100000 in
theorem mj_X0_multipleDown_39 (C : CX p s m args meth c G RX0 cX0_multipleDown 4 (some .long)) (h0 : xH) (mc ms : Nat) (post : Int64 → xH → Prop) 
    
    (h : xH) (kc : Nat) (ks : Nat) (x0 : Nat) (x2 : Nat) (H : Heap) (locs : List Loc) (ls : Array Slot) (nc ns : Nat) (hw : wj_X0_multipleDown_39  post  h kc ks x0 x2) (hI : x_I G (x_A h0 s.heap.size) s.heap h H locs) (hkc : nc + kc ≤ mc) (hks : ns + ks ≤ ms) (hl : lv_has ls 4 [(0, .ref x0), (2, .ref x2)]) : W p l e (rX0_multipleDown mc ms) s m args below meth c H locs nc ns (MQ below (x_Ql G h0 s.heap.size post) args s mc ms (x_A h0 s.heap.size)) (F0 m 39 ls []) := by
  obtain ⟨hx, hb, hr, hml, hown, hg, hlocks, hK⟩ := id C
  unfold wj_X0_multipleDown_39 at hw
  refine lv_aload_n hx hb dX0_multipleDown_39 rfl (lv_at hl 1 rfl) ?_
  refine lv_aload_n hx hb dX0_multipleDown_40 rfl (lv_at hl 0 rfl) ?_
  obtain ⟨fs_41, he_41, hw⟩ := hw
  obtain ⟨v_41, hv_41, hw⟩ := hw
  refine x_get (ci := 0) (C := RX0) (T := TX0) (N := 3) hx hb hg ku_X0 hown hK hI he_41 rfl 1 (by decide) (hg _ kf_X0_13) (fun _ h9 => h9) hv_41 dX0_multipleDown_41 ?_
  obtain ⟨fs_44, he_44, hw⟩ := hw
  obtain ⟨mc_44, ms_44, hkc1, hks1, hw⟩ := hw
  refine x_cr (va_runV (As := [.ref v_41]) (rest := []) ⟨hx, hb, hml, hown, hg⟩ (m_X5_dividedBy l G h mc_44 ms_44 x2 v_41 _ hw H.size) (cwV 1 hg (x_gV km_X0_30 ki_X5_dividedBy kz_X5_X5_dividedBy kn_X5 kk_X5_dividedBy) rfl rfl rfl (by decide +kernel) ⟨Nat.le_of_ble_eq_true rfl, Nat.le_of_ble_eq_true rfl⟩) ⟨x_blind, x_recv hI hK he_44 rfl rfl, x_pre hI hK⟩ rfl rfl hl.1 rfl (lv_room (Nat.le_of_ble_eq_true rfl)) dX0_multipleDown_44 ⟨show nc + mc_44 ≤ mc by omega, show ns + ms_44 ≤ ms by omega⟩) hI (fun r_44 h_44 H locs hw hI => ?_)
  refine lv_astore_n (lv' := [(3, .ref r_44), (0, .ref x0), (2, .ref x2)]) hx hb dX0_multipleDown_47 rfl hl (by decide) rfl (fun ls hl => ?_)
  refine lv_aload_n hx hb dX0_multipleDown_48 rfl (lv_at hl 0 rfl) ?_
  refine lv_ldc2 (v := 1000000000000000000) hx hb hown (hg _ kc_X0_48) dX0_multipleDown_49 ?_
  obtain ⟨mc_52, ms_52, hkc1, hks1, hw⟩ := hw
  refine x_cr (va_runS (As := [.long 1000000000000000000]) (rest := [.ref r_44]) ⟨hx, hb, hml, hown, hg⟩ (m_X5_of l G h_44 mc_52 ms_52 1000000000000000000 _ hw H.size) (va_cwS 1 hg (x_gS km_X0_34 ks_X5_of kn_X5 kk_X5_of) rfl rfl rfl (by decide +kernel) ⟨Nat.le_of_ble_eq_true rfl, Nat.le_of_ble_eq_true rfl⟩) ⟨x_blind, x_pre hI hK⟩ rfl rfl hl.1 rfl (lv_room (Nat.le_of_ble_eq_true rfl)) dX0_multipleDown_52 ⟨show nc + mc_44 + mc_52 ≤ mc by omega, show ns + ms_44 + ms_52 ≤ ms by omega⟩) hI (fun r_52 h_52 H locs hw hI => ?_)
  obtain ⟨fs_55, he_55, hw⟩ := hw
  refine x_ci (va_runV (As := [.ref r_52]) (rest := []) ⟨hx, hb, hml, hown, hg⟩ (m_X5_sizeAgainst l G h_52  r_44 r_52 _ hw H.size) (cwV 1 hg (x_gV km_X0_50 ki_X5_sizeAgainst kz_X5_X5_sizeAgainst kn_X5 kk_X5_sizeAgainst) rfl rfl rfl (by decide +kernel) ⟨Nat.le_of_ble_eq_true rfl, Nat.le_of_ble_eq_true rfl⟩) ⟨x_blind, x_recv hI hK he_55 rfl rfl, x_pre hI hK⟩ rfl rfl hl.1 rfl (lv_room (Nat.le_of_ble_eq_true rfl)) dX0_multipleDown_55 ⟨show nc + mc_44 + mc_52 + 0 ≤ mc by omega, show ns + ms_44 + ms_52 + 0 ≤ ms by omega⟩) hI (fun r_55 h_55 H locs hw hI => ?_)
  obtain ⟨eh_55, hw⟩ := hw
  rw [eh_55] at hI
  refine lv_if_lt (tgt := 71) hx hb dX0_multipleDown_58 (by decide) (fun hc58 => ?_) (fun hc58 => ?_)
  · have hw := hw.1 hc58
    refine lv_aload_n hx hb dX0_multipleDown_71 rfl (lv_at hl 0 rfl) ?_
    refine x_cl (va_runV (As := []) (rest := []) ⟨hx, hb, hml, hown, hg⟩ (m_X5_asLong l G h_52  r_44 _ hw H.size) (cwV 0 hg (x_gV km_X0_54 ki_X5_asLong kz_X5_X5_asLong kn_X5 kk_X5_asLong) rfl rfl rfl (by decide +kernel) ⟨Nat.le_of_ble_eq_true rfl, Nat.le_of_ble_eq_true rfl⟩) ⟨x_blind, x_recv hI hK he_55 rfl rfl, x_pre hI hK⟩ rfl rfl hl.1 rfl (lv_room (Nat.le_of_ble_eq_true rfl)) dX0_multipleDown_72 ⟨show nc + mc_44 + mc_52 + 0 + 0 ≤ mc by omega, show ns + ms_44 + ms_52 + 0 + 0 ≤ ms by omega⟩) hI (fun r_72 h_72 H locs hw hI => ?_)
    obtain ⟨eh_72, hw⟩ := hw
    rw [eh_72] at hI
    exact x_lret hx hb hr hlocks hI hw (by omega) (by omega) dX0_multipleDown_75
  · have hw := hw.2 hc58
    refine lv_aload_n hx hb dX0_multipleDown_61 rfl (lv_at hl 0 rfl) ?_
    refine x_ci (va_runV (As := []) (rest := []) ⟨hx, hb, hml, hown, hg⟩ (m_X5_sense l G h_52  r_44 _ hw H.size) (cwV 0 hg (x_gV km_X0_16 ki_X5_sense kz_X5_X5_sense kn_X5 kk_X5_sense) rfl rfl rfl (by decide +kernel) ⟨Nat.le_of_ble_eq_true rfl, Nat.le_of_ble_eq_true rfl⟩) ⟨x_blind, x_recv hI hK he_55 rfl rfl, x_pre hI hK⟩ rfl rfl hl.1 rfl (lv_room (Nat.le_of_ble_eq_true rfl)) dX0_multipleDown_62 ⟨show nc + mc_44 + mc_52 + 0 + 0 ≤ mc by omega, show ns + ms_44 + ms_52 + 0 + 0 ≤ ms by omega⟩) hI (fun r_62 h_62 H locs hw hI => ?_)
    obtain ⟨eh_62, hw⟩ := hw
    rw [eh_62] at hI
    refine lv_i2l (v := (r_62 : Int32).toInt64) hx hb dX0_multipleDown_65 rfl ?_
    refine lv_ldc2 (v := 1000000000000000000) hx hb hown (hg _ kc_X0_48) dX0_multipleDown_66 ?_
    refine lv_lmul hx hb dX0_multipleDown_69 ?_
    exact x_lret hx hb hr hlocks hI hw (by omega) (by omega) dX0_multipleDown_70
set_option maxHeartbeats 4000000 in
set_option maxRecDepth 100000 in
theorem m_X0_multipleDown (l : Launch) (G : xG) (h0 : xH) (mc ms : Nat) (x0 : Nat) (x1 : Int32) (post : Int64 → xH → Prop) (hw : wp_X0_multipleDown h0 mc ms x0 x1 post) (sz : Nat) : Met l yX0_multipleDown (wu yX0_multipleDown cX0_multipleDown 4 (some .long)) (rX0_multipleDown mc ms) (x_Pc G [.ref x0, .int x1] h0 sz) (x_Ql G h0 sz post) mc ms (x_A h0 sz) := by
  refine Met.ofW (cc := cX0_multipleDown) (maxL := 4) (ret := (some .long)) (by decide) rfl ?_
  intro p e s m args below meth c s₁ B hml hv
  obtain ⟨rfl, hsz, hR, hK⟩ := hv
  subst hsz
  have C : CX p s m _ meth c G RX0 cX0_multipleDown 4 (some .long) := ⟨B.exec, B.bytes, B.returns, hml, findClass_of_methodNamed B.named, x_hg (atoms_spec (ws := wu yX0_multipleDown cX0_multipleDown 4 (some .long)) B.pre), B.notSynchronized, hK⟩
  obtain ⟨hx, hb, hr, hml, hown, hg, hlocks, hK⟩ := id C
  have hI : x_I G (x_A h0 s.heap.size) s.heap h0 s.heap [] := x_I.start hR
  have hkc : 0 + mc ≤ mc := by omega
  have hks : 0 + ms ≤ ms := by omega
  have hl := lv_entry ([.ref x0, .int x1]) (n := 4) (Nat.le_of_ble_eq_true rfl)
  rw [lg_entry_eq]
  generalize (lg_sl ([.ref x0, .int x1]) ++ List.replicate (4 - (lg_sl ([.ref x0, .int x1])).length) Slot.unset).toArray = ls at hl ⊢
  have hl : lv_has ls 4 [(0, .ref x0), (1, .int x1)] := hl
  unfold wp_X0_multipleDown at hw
  refine lv_aload_n hx hb dX0_multipleDown_0 rfl (lv_at hl 0 rfl) ?_
  obtain ⟨fs_1, he_1, hw⟩ := hw
  obtain ⟨v_1, hv_1, hw⟩ := hw
  refine x_get (ci := 0) (C := RX0) (T := TX0) (N := 3) hx hb hg ku_X0 hown hK hI he_1 rfl 0 (by decide) (hg _ kf_X0_7) (fun _ h9 => h9) hv_1 dX0_multipleDown_1 ?_
  refine lv_iload_n hx hb dX0_multipleDown_4 rfl (lv_at hl 1 rfl) ?_
  refine lv_i2l (v := (x1 : Int32).toInt64) hx hb dX0_multipleDown_5 rfl ?_
  obtain ⟨mc_6, ms_6, hkc1, hks1, hw⟩ := hw
  refine x_cr (va_runS (As := [.long ((x1 : Int32).toInt64)]) (rest := [.ref v_1]) ⟨hx, hb, hml, hown, hg⟩ (m_X5_of l G h0 mc_6 ms_6 ((x1 : Int32).toInt64) _ hw s.heap.size) (va_cwS 1 hg (x_gS km_X0_34 ks_X5_of kn_X5 kk_X5_of) rfl rfl rfl (by decide +kernel) ⟨Nat.le_of_ble_eq_true rfl, Nat.le_of_ble_eq_true rfl⟩) ⟨x_blind, x_pre hI hK⟩ rfl rfl hl.1 rfl (lv_room (Nat.le_of_ble_eq_true rfl)) dX0_multipleDown_6 ⟨show 0 + mc_6 ≤ mc by omega, show 0 + ms_6 ≤ ms by omega⟩) hI (fun r_6 h_6 H locs hw hI => ?_)
  obtain ⟨fs_9, he_9, hw⟩ := hw
  obtain ⟨mc_9, ms_9, hkc1, hks1, hw⟩ := hw
  refine x_cr (va_runV (As := [.ref r_6]) (rest := []) ⟨hx, hb, hml, hown, hg⟩ (m_X5_times l G h_6 mc_9 ms_9 v_1 r_6 _ hw H.size) (cwV 1 hg (x_gV km_X0_38 ki_X5_times kz_X5_X5_times kn_X5 kk_X5_times) rfl rfl rfl (by decide +kernel) ⟨Nat.le_of_ble_eq_true rfl, Nat.le_of_ble_eq_true rfl⟩) ⟨x_blind, x_recv hI hK he_9 rfl rfl, x_pre hI hK⟩ rfl rfl hl.1 rfl (lv_room (Nat.le_of_ble_eq_true rfl)) dX0_multipleDown_9 ⟨show 0 + mc_6 + mc_9 ≤ mc by omega, show 0 + ms_6 + ms_9 ≤ ms by omega⟩) hI (fun r_9 h_9 H locs hw hI => ?_)
  refine lv_astore_n (lv' := [(2, .ref r_9), (0, .ref x0), (1, .int x1)]) hx hb dX0_multipleDown_12 rfl hl (by decide) rfl (fun ls hl => ?_)
  refine lv_aload_n hx hb dX0_multipleDown_13 rfl (lv_at hl 0 rfl) ?_
  obtain ⟨fs_14, he_14, hw⟩ := hw
  refine x_ci (va_runV (As := []) (rest := []) ⟨hx, hb, hml, hown, hg⟩ (m_X5_sense l G h_9  r_9 _ hw H.size) (cwV 0 hg (x_gV km_X0_16 ki_X5_sense kz_X5_X5_sense kn_X5 kk_X5_sense) rfl rfl rfl (by decide +kernel) ⟨Nat.le_of_ble_eq_true rfl, Nat.le_of_ble_eq_true rfl⟩) ⟨x_blind, x_recv hI hK he_14 rfl rfl, x_pre hI hK⟩ rfl rfl hl.1 rfl (lv_room (Nat.le_of_ble_eq_true rfl)) dX0_multipleDown_14 ⟨show 0 + mc_6 + mc_9 + 0 ≤ mc by omega, show 0 + ms_6 + ms_9 + 0 ≤ ms by omega⟩) hI (fun r_14 h_14 H locs hw hI => ?_)
  obtain ⟨eh_14, hw⟩ := hw
  rw [eh_14] at hI
  refine lv_if_ge (tgt := 39) hx hb dX0_multipleDown_17 (by decide) (fun hc17 => ?_) (fun hc17 => ?_)
  · have hw := hw.1 hc17
    exact mj_X0_multipleDown_39 C h0 mc ms post  _ _ _ _ _ _ _ _ _ _ hw hI (by omega) (by omega) (lv_sub hl [1, 0] rfl)
  · have hw := hw.2 hc17
    refine lv_aload_n hx hb dX0_multipleDown_20 rfl (lv_at hl 0 rfl) ?_
    refine lv_aload_n hx hb dX0_multipleDown_21 rfl (lv_at hl 1 rfl) ?_
    obtain ⟨fs_22, he_22, hw⟩ := hw
    obtain ⟨v_22, hv_22, hw⟩ := hw
    refine x_get (ci := 0) (C := RX0) (T := TX0) (N := 3) hx hb hg ku_X0 hown hK hI he_22 rfl 1 (by decide) (hg _ kf_X0_13) (fun _ h9 => h9) hv_22 dX0_multipleDown_22 ?_
    obtain ⟨fs_25, he_25, hw⟩ := hw
    obtain ⟨mc_25, ms_25, hkc1, hks1, hw⟩ := hw
    refine x_cr (va_runV (As := []) (rest := [.ref r_9]) ⟨hx, hb, hml, hown, hg⟩ (m_X5_negative l G h_9 mc_25 ms_25 v_22 _ hw H.size) (cwV 0 hg (x_gV km_X0_41 ki_X5_negative kz_X5_X5_negative kn_X5 kk_X5_negative) rfl rfl rfl (by decide +kernel) ⟨Nat.le_of_ble_eq_true rfl, Nat.le_of_ble_eq_true rfl⟩) ⟨x_blind, x_recv hI hK he_25 rfl rfl, x_pre hI hK⟩ rfl rfl hl.1 rfl (lv_room (Nat.le_of_ble_eq_true rfl)) dX0_multipleDown_25 ⟨show 0 + mc_6 + mc_9 + 0 + mc_25 ≤ mc by omega, show 0 + ms_6 + ms_9 + 0 + ms_25 ≤ ms by omega⟩) hI (fun r_25 h_25 H locs hw hI => ?_)
    obtain ⟨fs_28, he_28, hw⟩ := hw
    obtain ⟨mc_28, ms_28, hkc1, hks1, hw⟩ := hw
    refine x_cr (va_runV (As := [.ref r_25]) (rest := []) ⟨hx, hb, hml, hown, hg⟩ (m_X5_plus l G h_25 mc_28 ms_28 r_9 r_25 _ hw H.size) (cwV 1 hg (x_gV km_X0_45 ki_X5_plus kz_X5_X5_plus kn_X5 kk_X5_plus) rfl rfl rfl (by decide +kernel) ⟨Nat.le_of_ble_eq_true rfl, Nat.le_of_ble_eq_true rfl⟩) ⟨x_blind, x_recv hI hK he_28 rfl rfl, x_pre hI hK⟩ rfl rfl hl.1 rfl (lv_room (Nat.le_of_ble_eq_true rfl)) dX0_multipleDown_28 ⟨show 0 + mc_6 + mc_9 + 0 + mc_25 + mc_28 ≤ mc by omega, show 0 + ms_6 + ms_9 + 0 + ms_25 + ms_28 ≤ ms by omega⟩) hI (fun r_28 h_28 H locs hw hI => ?_)
    refine lv_lconst (v := 1) hx hb dX0_multipleDown_31 (by decide) ?_
    obtain ⟨mc_32, ms_32, hkc1, hks1, hw⟩ := hw
    refine x_cr (va_runS (As := [.long 1]) (rest := [.ref r_28]) ⟨hx, hb, hml, hown, hg⟩ (m_X5_of l G h_28 mc_32 ms_32 1 _ hw H.size) (va_cwS 1 hg (x_gS km_X0_34 ks_X5_of kn_X5 kk_X5_of) rfl rfl rfl (by decide +kernel) ⟨Nat.le_of_ble_eq_true rfl, Nat.le_of_ble_eq_true rfl⟩) ⟨x_blind, x_pre hI hK⟩ rfl rfl hl.1 rfl (lv_room (Nat.le_of_ble_eq_true rfl)) dX0_multipleDown_32 ⟨show 0 + mc_6 + mc_9 + 0 + mc_25 + mc_28 + mc_32 ≤ mc by omega, show 0 + ms_6 + ms_9 + 0 + ms_25 + ms_28 + ms_32 ≤ ms by omega⟩) hI (fun r_32 h_32 H locs hw hI => ?_)
    obtain ⟨fs_35, he_35, hw⟩ := hw
    obtain ⟨mc_35, ms_35, hkc1, hks1, hw⟩ := hw
    refine x_cr (va_runV (As := [.ref r_32]) (rest := []) ⟨hx, hb, hml, hown, hg⟩ (m_X5_plus l G h_32 mc_35 ms_35 r_28 r_32 _ hw H.size) (cwV 1 hg (x_gV km_X0_45 ki_X5_plus kz_X5_X5_plus kn_X5 kk_X5_plus) rfl rfl rfl (by decide +kernel) ⟨Nat.le_of_ble_eq_true rfl, Nat.le_of_ble_eq_true rfl⟩) ⟨x_blind, x_recv hI hK he_35 rfl rfl, x_pre hI hK⟩ rfl rfl hl.1 rfl (lv_room (Nat.le_of_ble_eq_true rfl)) dX0_multipleDown_35 ⟨show 0 + mc_6 + mc_9 + 0 + mc_25 + mc_28 + mc_32 + mc_35 ≤ mc by omega, show 0 + ms_6 + ms_9 + 0 + ms_25 + ms_28 + ms_32 + ms_35 ≤ ms by omega⟩) hI (fun r_35 h_35 H locs hw hI => ?_)
    refine lv_astore_n (lv' := [(2, .ref r_35), (0, .ref x0), (1, .int x1)]) hx hb dX0_multipleDown_38 rfl hl (by decide) rfl (fun ls hl => ?_)
    exact mj_X0_multipleDown_39 C h0 mc ms post  _ _ _ _ _ _ _ _ _ _ hw hI (by omega) (by omega) (lv_sub hl [1, 0] rfl)
-- ===== ExactFilter$Table.init
abbrev rX4_init (mc ms : Nat) : Room := { frames := 1, cells := mc, slots := ms, locals := 20 }
def wp_X4_init (h0 : xH) (mc ms : Nat) (x0 : Nat) (x1 : Int32) (x2 : Int32) (x3 : Nat) (x4 : Nat) (post : xH → Prop) : Prop := ∃ fs_6 : List Value, h0 x0 = some (.inr (4, fs_6)) ∧ 0 < (fs_6 : List Value).length ∧ ∀ h_6 : xH, h_6 = x_up h0 x0 (.inr (4, (fs_6 : List Value).set 0 (.int x1))) → 1 < ((fs_6 : List Value).set 0 (.int x1) : List Value).length ∧ ∀ h_11 : xH, h_11 = x_up h_6 x0 (.inr (4, ((fs_6 : List Value).set 0 (.int x1) : List Value).set 1 (.int x2))) → 2 < (((fs_6 : List Value).set 0 (.int x1) : List Value).set 1 (.int x2) : List Value).length ∧ ∀ h_16 : xH, h_16 = x_up h_11 x0 (.inr (4, (((fs_6 : List Value).set 0 (.int x1) : List Value).set 1 (.int x2) : List Value).set 2 (.ref x3))) → 3 < ((((fs_6 : List Value).set 0 (.int x1) : List Value).set 1 (.int x2) : List Value).set 2 (.ref x3) : List Value).length ∧ ∀ h_22 : xH, h_22 = x_up h_16 x0 (.inr (4, ((((fs_6 : List Value).set 0 (.int x1) : List Value).set 1 (.int x2) : List Value).set 2 (.ref x3) : List Value).set 3 (.ref x4))) → ∃ (n_27 : Nat) (f_27 : Nat → Option Nat), h_22 x3 = some (.inl (2, n_27, .inr (.inr (.inr (.inr f_27))))) ∧ ¬ ((nI n_27) : Int32) < 0 ∧ ∀ z_28 : Nat, ((nI n_27) : Int32).toNatClampNeg = z_28 → z_28 ≤ 60000000 ∧ 1 ≤ mc ∧ z_28 ≤ ms ∧ ∀ q_28 : Nat, x_fresh h_22 q_28 → ∀ h_28 : xH, h_28 = x_up h_22 q_28 (.inl (3, z_28, .inr (.inr (.inr (.inr (fun _ => none)))))) → ∃ fs_31 : List Value, h_28 x0 = some (.inr (4, fs_31)) ∧ 4 < (fs_31 : List Value).length ∧ ∀ h_31 : xH, h_31 = x_up h_28 x0 (.inr (4, (fs_31 : List Value).set 4 (.ref q_28))) → post h_31
set_option maxHeartbeats 4000000 in
set_option maxRecDepth 100000 in
theorem m_X4_init (l : Launch) (G : xG) (h0 : xH) (mc ms : Nat) (x0 : Nat) (x1 : Int32) (x2 : Int32) (x3 : Nat) (x4 : Nat) (post : xH → Prop) (hw : wp_X4_init h0 mc ms x0 x1 x2 x3 x4 post) (sz : Nat) : Met l yX4_init (wu yX4_init cX4_init 5 none) (rX4_init mc ms) (x_Pc G [.ref x0, .int x1, .int x2, .ref x3, .ref x4] h0 sz) (x_Qv G h0 sz post) mc ms (x_A h0 sz) := by
  refine Met.ofW (cc := cX4_init) (maxL := 5) (ret := none) (by decide) rfl ?_
  intro p e s m args below meth c s₁ B hml hv
  obtain ⟨rfl, hsz, hR, hK⟩ := hv
  subst hsz
  have C : CX p s m _ meth c G RX4 cX4_init 5 none := ⟨B.exec, B.bytes, B.returns, hml, findClass_of_methodNamed B.named, x_hg (atoms_spec (ws := wu yX4_init cX4_init 5 none) B.pre), B.notSynchronized, hK⟩
  obtain ⟨hx, hb, hr, hml, hown, hg, hlocks, hK⟩ := id C
  have hin : meth.name = "<init>" := (name_of_methodNamed B.named B.method).1
  have hI : x_I G (x_A h0 s.heap.size) s.heap h0 s.heap [] := x_I.start hR
  have hkc : 0 + mc ≤ mc := by omega
  have hks : 0 + ms ≤ ms := by omega
  have hl := lv_entry ([.ref x0, .int x1, .int x2, .ref x3, .ref x4]) (n := 5) (Nat.le_of_ble_eq_true rfl)
  rw [lg_entry_eq]
  generalize (lg_sl ([.ref x0, .int x1, .int x2, .ref x3, .ref x4]) ++ List.replicate (5 - (lg_sl ([.ref x0, .int x1, .int x2, .ref x3, .ref x4])).length) Slot.unset).toArray = ls at hl ⊢
  have hl : lv_has ls 5 [(0, .ref x0), (1, .int x1), (2, .int x2), (3, .ref x3), (4, .ref x4)] := hl
  unfold wp_X4_init at hw
  refine lv_aload_n hx hb dX4_init_0 rfl (lv_at hl 0 rfl) ?_
  refine W.objInit hx hb hown (hg _ km_X4_1) (hg _ ki_java_lang_Object__init____V) (hg _ kk_java_lang_Object__init____V) rfl (by rw [hml]; exact hl.1) rfl dX4_init_1 (Nat.le_of_ble_eq_true rfl) (Nat.le_of_ble_eq_true rfl) ?_
  refine W.eq (g2 := F0 m 4 ls []) rfl ?_
  refine lv_aload_n hx hb dX4_init_4 rfl (lv_at hl 0 rfl) ?_
  refine lv_iload_n hx hb dX4_init_5 rfl (lv_at hl 1 rfl) ?_
  obtain ⟨fs_6, he_6, hw⟩ := hw
  obtain ⟨hlen6, hw⟩ := hw
  refine x_putF (ci := 4) (v := .int x1) (ty := .int) (C := RX4) (T := TX4) (N := 5) hx hb hg ku_X4 tyX4 tyX4_ok nmX4 hown hK hI he_6 rfl 0 (by decide) (hg _ kf_X4_7) (fun _ h9 => h9) rfl hin rfl (by decide +kernel) rfl rfl hlen6 dX4_init_6 (fun H locs hI => ?_)
  have hI : x_I G (x_A h0 s.heap.size) s.heap (x_up h0 x0 (.inr (4, (fs_6 : List Value).set 0 (.int x1)))) H locs := hI
  obtain ⟨h_6, eh_6⟩ : ∃ z : xH, z = x_up h0 x0 (.inr (4, (fs_6 : List Value).set 0 (.int x1))) := ⟨_, rfl⟩
  rw [← eh_6] at hI
  have hw := hw h_6 eh_6
  have heh_6 : h_6 x0 = some (.inr (4, (fs_6 : List Value).set 0 (.int x1))) := by rw [eh_6]; exact x_up_s
  refine lv_aload_n hx hb dX4_init_9 rfl (lv_at hl 0 rfl) ?_
  refine lv_iload_n hx hb dX4_init_10 rfl (lv_at hl 2 rfl) ?_
  obtain ⟨hlen11, hw⟩ := hw
  refine x_putF (ci := 4) (v := .int x2) (ty := .int) (C := RX4) (T := TX4) (N := 5) hx hb hg ku_X4 tyX4 tyX4_ok nmX4 hown hK hI heh_6 rfl 1 (by decide) (hg _ kf_X4_13) (fun _ h9 => h9) rfl hin rfl (by decide +kernel) rfl rfl hlen11 dX4_init_11 (fun H locs hI => ?_)
  have hI : x_I G (x_A h0 s.heap.size) s.heap (x_up h_6 x0 (.inr (4, ((fs_6 : List Value).set 0 (.int x1) : List Value).set 1 (.int x2)))) H locs := hI
  obtain ⟨h_11, eh_11⟩ : ∃ z : xH, z = x_up h_6 x0 (.inr (4, ((fs_6 : List Value).set 0 (.int x1) : List Value).set 1 (.int x2))) := ⟨_, rfl⟩
  rw [← eh_11] at hI
  have hw := hw h_11 eh_11
  have heh_11 : h_11 x0 = some (.inr (4, ((fs_6 : List Value).set 0 (.int x1) : List Value).set 1 (.int x2))) := by rw [eh_11]; exact x_up_s
  refine lv_aload_n hx hb dX4_init_14 rfl (lv_at hl 0 rfl) ?_
  refine lv_aload_n hx hb dX4_init_15 rfl (lv_at hl 3 rfl) ?_
  obtain ⟨hlen16, hw⟩ := hw
  refine x_putF (ci := 4) (v := .ref x3) (ty := .array (.object "ExactFilter$Whole")) (C := RX4) (T := TX4) (N := 5) hx hb hg ku_X4 tyX4 tyX4_ok nmX4 hown hK hI heh_11 rfl 2 (by decide) (hg _ kf_X4_16) (fun _ h9 => h9) rfl hin rfl (by decide +kernel) rfl rfl hlen16 dX4_init_16 (fun H locs hI => ?_)
  have hI : x_I G (x_A h0 s.heap.size) s.heap (x_up h_11 x0 (.inr (4, (((fs_6 : List Value).set 0 (.int x1) : List Value).set 1 (.int x2) : List Value).set 2 (.ref x3)))) H locs := hI
  obtain ⟨h_16, eh_16⟩ : ∃ z : xH, z = x_up h_11 x0 (.inr (4, (((fs_6 : List Value).set 0 (.int x1) : List Value).set 1 (.int x2) : List Value).set 2 (.ref x3))) := ⟨_, rfl⟩
  rw [← eh_16] at hI
  have hw := hw h_16 eh_16
  have heh_16 : h_16 x0 = some (.inr (4, (((fs_6 : List Value).set 0 (.int x1) : List Value).set 1 (.int x2) : List Value).set 2 (.ref x3))) := by rw [eh_16]; exact x_up_s
  refine lv_aload_n hx hb dX4_init_19 rfl (lv_at hl 0 rfl) ?_
  refine lv_aload hx hb dX4_init_20 (lv_at hl 4 rfl) ?_
  obtain ⟨hlen22, hw⟩ := hw
  refine x_putF (ci := 4) (v := .ref x4) (ty := .object "ExactFilter$Whole") (C := RX4) (T := TX4) (N := 5) hx hb hg ku_X4 tyX4 tyX4_ok nmX4 hown hK hI heh_16 rfl 3 (by decide) (hg _ kf_X4_20) (fun _ h9 => h9) rfl hin rfl (by decide +kernel) rfl rfl hlen22 dX4_init_22 (fun H locs hI => ?_)
  have hI : x_I G (x_A h0 s.heap.size) s.heap (x_up h_16 x0 (.inr (4, ((((fs_6 : List Value).set 0 (.int x1) : List Value).set 1 (.int x2) : List Value).set 2 (.ref x3) : List Value).set 3 (.ref x4)))) H locs := hI
  obtain ⟨h_22, eh_22⟩ : ∃ z : xH, z = x_up h_16 x0 (.inr (4, ((((fs_6 : List Value).set 0 (.int x1) : List Value).set 1 (.int x2) : List Value).set 2 (.ref x3) : List Value).set 3 (.ref x4))) := ⟨_, rfl⟩
  rw [← eh_22] at hI
  have hw := hw h_22 eh_22
  have heh_22 : h_22 x0 = some (.inr (4, ((((fs_6 : List Value).set 0 (.int x1) : List Value).set 1 (.int x2) : List Value).set 2 (.ref x3) : List Value).set 3 (.ref x4))) := by rw [eh_22]; exact x_up_s
  refine lv_aload_n hx hb dX4_init_25 rfl (lv_at hl 0 rfl) ?_
  refine lv_aload_n hx hb dX4_init_26 rfl (lv_at hl 3 rfl) ?_
  obtain ⟨n_27, f_27, he_27, hw⟩ := hw
  refine x_alen hx hb hK hI he_27 rfl dX4_init_27 ?_
  refine W.eq (g2 := F0 m 28 ls (.int (nI n_27) :: .ref x0 :: [])) rfl ?_
  obtain ⟨hneg28, hw⟩ := hw
  obtain ⟨z_28, hz28⟩ : ∃ z : Nat, ((nI n_27) : Int32).toNatClampNeg = z := ⟨_, rfl⟩
  obtain ⟨hz228, hkc1, hks1, hw⟩ := hw z_28 hz28
  refine x_newq (t0 := 3) hx hb hown (hg _ kl_X4_24) hK.2.2.1 hK hI rfl hneg28 hz28 (by omega) (show 0 + 1 ≤ mc by omega) (show 0 + z_28 ≤ ms by omega) dX4_init_28 (fun q_28 H hfr28 hI => ?_)
  have hw := hw q_28 hfr28
  obtain ⟨h_28, eh_28⟩ : ∃ z : xH, z = x_up h_22 q_28 (.inl (3, z_28, .inr (.inr (.inr (.inr (fun _ => none)))))) := ⟨_, rfl⟩
  rw [← eh_28] at hI
  have hw := hw h_28 eh_28
  have heh_28 : h_28 q_28 = some (.inl (3, z_28, .inr (.inr (.inr (.inr (fun _ => none)))))) := by rw [eh_28]; exact x_up_s
  obtain ⟨fs_31, he_31, hw⟩ := hw
  obtain ⟨hlen31, hw⟩ := hw
  refine x_putF (ci := 4) (v := .ref q_28) (ty := .array (.object "ExactFilter$Fraction")) (C := RX4) (T := TX4) (N := 5) hx hb hg ku_X4 tyX4 tyX4_ok nmX4 hown hK hI he_31 rfl 4 (by decide) (hg _ kf_X4_26) (fun _ h9 => h9) rfl hin rfl (by decide +kernel) rfl rfl hlen31 dX4_init_31 (fun H locs hI => ?_)
  have hI : x_I G (x_A h0 s.heap.size) s.heap (x_up h_28 x0 (.inr (4, (fs_31 : List Value).set 4 (.ref q_28)))) H locs := hI
  obtain ⟨h_31, eh_31⟩ : ∃ z : xH, z = x_up h_28 x0 (.inr (4, (fs_31 : List Value).set 4 (.ref q_28))) := ⟨_, rfl⟩
  rw [← eh_31] at hI
  have hw := hw h_31 eh_31
  have heh_31 : h_31 x0 = some (.inr (4, (fs_31 : List Value).set 4 (.ref q_28))) := by rw [eh_31]; exact x_up_s
  exact x_vret hx hb hr hlocks hI hw (by omega) (by omega) dX4_init_34
-- ===== ExactFilter$Table.ofFraction
abbrev rX4_ofFraction (mc ms : Nat) : Room := { frames := 3, cells := mc, slots := ms, locals := 69 }
def wp_X4_ofFraction (h0 : xH) (mc ms : Nat) (x0 : Int32) (x1 : Int32) (post : Nat → xH → Prop) : Prop := ¬ (1 : Int32) < 0 ∧ ∀ z_1 : Nat, (1 : Int32).toNatClampNeg = z_1 → z_1 ≤ 60000000 ∧ 1 ≤ mc ∧ z_1 ≤ ms ∧ ∀ q_1 : Nat, x_fresh h0 q_1 → ∀ h_1 : xH, h_1 = x_up h0 q_1 (.inl (2, z_1, .inr (.inr (.inr (.inr (fun _ => none)))))) → ∃ mc_8 ms_8 : Nat, mc_8 ≤ (mc - 1) ∧ ms_8 ≤ (ms - z_1) ∧ wp_X5_of h_1 mc_8 ms_8 ((x0 : Int32).toInt64) (fun (r_8 : Nat) (h_8 : xH) => ∃ (n_11 : Nat) (f_11 : Nat → Option Nat), h_8 q_1 = some (.inl (2, n_11, .inr (.inr (.inr (.inr f_11))))) ∧ vp_in 0 n_11 ∧ ∃ vs_11 : List Value, h_8 r_8 = some (.inr (5, vs_11)) ∧ ∀ h_11 : xH, h_11 = x_up h_8 q_1 (.inl (2, n_11, .inr (.inr (.inr (.inr (va_up f_11 (0 : Int32).toNatClampNeg (some r_8))))))) → 1 ≤ ((mc - 1) - mc_8) ∧ 5 ≤ ((ms - z_1) - ms_8) ∧ ∀ q_13 : Nat, x_fresh h_11 q_13 → ∀ h_13 : xH, h_13 = x_up h_11 q_13 (.inr (4, [.int 0, .int 0, .null, .null, .null])) → ∃ mc_22 ms_22 : Nat, mc_22 ≤ (((mc - 1) - mc_8) - 1) ∧ ms_22 ≤ (((ms - z_1) - ms_8) - 5) ∧ wp_X5_of h_13 mc_22 ms_22 ((x1 : Int32).toInt64) (fun (r_22 : Nat) (h_22 : xH) => ∃ mc_25 ms_25 : Nat, mc_25 ≤ ((((mc - 1) - mc_8) - 1) - mc_22) ∧ ms_25 ≤ ((((ms - z_1) - ms_8) - 5) - ms_22) ∧ wp_X4_init h_22 mc_25 ms_25 q_13 1 1 q_1 r_22 (fun (h_25 : xH) => post q_13 h_25)))
set_option maxHeartbeats 4000000 in
set_option maxRecDepth 100000 in
theorem m_X4_ofFraction (l : Launch) (G : xG) (h0 : xH) (mc ms : Nat) (x0 : Int32) (x1 : Int32) (post : Nat → xH → Prop) (hw : wp_X4_ofFraction h0 mc ms x0 x1 post) (sz : Nat) : Met l yX4_ofFraction (wu yX4_ofFraction cX4_ofFraction 3 (some (.object "ExactFilter$Table"))) (rX4_ofFraction mc ms) (x_Pc G [.int x0, .int x1] h0 sz) (x_Qr G h0 sz post) mc ms (x_A h0 sz) := by
  refine Met.ofW (cc := cX4_ofFraction) (maxL := 3) (ret := (some (.object "ExactFilter$Table"))) (by decide) rfl ?_
  intro p e s m args below meth c s₁ B hml hv
  obtain ⟨rfl, hsz, hR, hK⟩ := hv
  subst hsz
  have C : CX p s m _ meth c G RX4 cX4_ofFraction 3 (some (.object "ExactFilter$Table")) := ⟨B.exec, B.bytes, B.returns, hml, findClass_of_methodNamed B.named, x_hg (atoms_spec (ws := wu yX4_ofFraction cX4_ofFraction 3 (some (.object "ExactFilter$Table"))) B.pre), B.notSynchronized, hK⟩
  obtain ⟨hx, hb, hr, hml, hown, hg, hlocks, hK⟩ := id C
  have hI : x_I G (x_A h0 s.heap.size) s.heap h0 s.heap [] := x_I.start hR
  have hkc : 0 + mc ≤ mc := by omega
  have hks : 0 + ms ≤ ms := by omega
  have hl := lv_entry ([.int x0, .int x1]) (n := 3) (Nat.le_of_ble_eq_true rfl)
  rw [lg_entry_eq]
  generalize (lg_sl ([.int x0, .int x1]) ++ List.replicate (3 - (lg_sl ([.int x0, .int x1])).length) Slot.unset).toArray = ls at hl ⊢
  have hl : lv_has ls 3 [(0, .int x0), (1, .int x1)] := hl
  unfold wp_X4_ofFraction at hw
  refine lv_iconst (v := 1) hx hb dX4_ofFraction_0 (by decide) ?_
  obtain ⟨hneg1, hw⟩ := hw
  obtain ⟨z_1, hz1⟩ : ∃ z : Nat, (1 : Int32).toNatClampNeg = z := ⟨_, rfl⟩
  obtain ⟨hz21, hkc1, hks1, hw⟩ := hw z_1 hz1
  refine x_newq (t0 := 2) hx hb hown (hg _ kl_X4_30) hK.2.1 hK hI rfl hneg1 hz1 (by omega) (show 0 + 1 ≤ mc by omega) (show 0 + z_1 ≤ ms by omega) dX4_ofFraction_1 (fun q_1 H hfr1 hI => ?_)
  have hw := hw q_1 hfr1
  obtain ⟨h_1, eh_1⟩ : ∃ z : xH, z = x_up h0 q_1 (.inl (2, z_1, .inr (.inr (.inr (.inr (fun _ => none)))))) := ⟨_, rfl⟩
  rw [← eh_1] at hI
  have hw := hw h_1 eh_1
  have heh_1 : h_1 q_1 = some (.inl (2, z_1, .inr (.inr (.inr (.inr (fun _ => none)))))) := by rw [eh_1]; exact x_up_s
  refine lv_dup hx hb dX4_ofFraction_4 rfl ?_
  refine lv_iconst (v := 0) hx hb dX4_ofFraction_5 (by decide) ?_
  refine lv_iload_n hx hb dX4_ofFraction_6 rfl (lv_at hl 0 rfl) ?_
  refine lv_i2l (v := (x0 : Int32).toInt64) hx hb dX4_ofFraction_7 rfl ?_
  obtain ⟨mc_8, ms_8, hkc1, hks1, hw⟩ := hw
  refine x_cr (va_runS (As := [.long ((x0 : Int32).toInt64)]) (rest := [.int 0, .ref q_1, .ref q_1]) ⟨hx, hb, hml, hown, hg⟩ (m_X5_of l G h_1 mc_8 ms_8 ((x0 : Int32).toInt64) _ hw H.size) (va_cwS 1 hg (x_gS km_X4_32 ks_X5_of kn_X5 kk_X5_of) rfl rfl rfl (by decide +kernel) ⟨Nat.le_of_ble_eq_true rfl, Nat.le_of_ble_eq_true rfl⟩) ⟨x_blind, x_pre hI hK⟩ rfl rfl hl.1 rfl (lv_room (Nat.le_of_ble_eq_true rfl)) dX4_ofFraction_8 ⟨show 0 + 1 + mc_8 ≤ mc by omega, show 0 + z_1 + ms_8 ≤ ms by omega⟩) hI (fun r_8 h_8 H locs hw hI => ?_)
  obtain ⟨n_11, f_11, he_11, hw⟩ := hw
  obtain ⟨hi11, hw⟩ := hw
  obtain ⟨vs_11, hvs_11, hw⟩ := hw
  refine x_aast (r := (RX5, TX5, 3)) hx hb hK hI he_11 rfl hvs_11 rfl hi11 dX4_ofFraction_11 (fun H locs hI => ?_)
  obtain ⟨h_11, eh_11⟩ : ∃ z : xH, z = x_up h_8 q_1 (.inl (2, n_11, .inr (.inr (.inr (.inr (va_up f_11 (0 : Int32).toNatClampNeg (some r_8))))))) := ⟨_, rfl⟩
  rw [← eh_11] at hI
  have hw := hw h_11 eh_11
  have heh_11 : h_11 q_1 = some (.inl (2, n_11, .inr (.inr (.inr (.inr (va_up f_11 (0 : Int32).toNatClampNeg (some r_8))))))) := by rw [eh_11]; exact x_up_s
  refine lv_astore_n (lv' := [(2, .ref q_1), (0, .int x0), (1, .int x1)]) hx hb dX4_ofFraction_12 rfl hl (by decide) rfl (fun ls hl => ?_)
  obtain ⟨hkc1, hks1, hw⟩ := hw
  refine x_new (ci := 4) (fs := [.int 0, .int 0, .null, .null, .null]) (C := RX4) (T := TX4) (N := 5) hx hb hg ku_X4 tyX4 tyX4_ok hown (hg _ kl_X4_8) (hg _ kt_X4) (hg _ kn_X4) hK hI rfl (by decide +kernel) (show 0 + 1 + mc_8 + 1 ≤ mc by omega) (show 0 + z_1 + ms_8 + 5 ≤ ms by omega) dX4_ofFraction_13 (fun q_13 H hfr13 hI => ?_)
  have hw := hw q_13 hfr13
  obtain ⟨h_13, eh_13⟩ : ∃ z : xH, z = x_up h_11 q_13 (.inr (4, [.int 0, .int 0, .null, .null, .null])) := ⟨_, rfl⟩
  rw [← eh_13] at hI
  have hw := hw h_13 eh_13
  have heh_13 : h_13 q_13 = some (.inr (4, [.int 0, .int 0, .null, .null, .null])) := by rw [eh_13]; exact x_up_s
  refine lv_dup hx hb dX4_ofFraction_16 rfl ?_
  refine lv_iconst (v := 1) hx hb dX4_ofFraction_17 (by decide) ?_
  refine lv_iconst (v := 1) hx hb dX4_ofFraction_18 (by decide) ?_
  refine lv_aload_n hx hb dX4_ofFraction_19 rfl (lv_at hl 0 rfl) ?_
  refine lv_iload_n hx hb dX4_ofFraction_20 rfl (lv_at hl 2 rfl) ?_
  refine lv_i2l (v := (x1 : Int32).toInt64) hx hb dX4_ofFraction_21 rfl ?_
  obtain ⟨mc_22, ms_22, hkc1, hks1, hw⟩ := hw
  refine x_cr (va_runS (As := [.long ((x1 : Int32).toInt64)]) (rest := [.ref q_1, .int 1, .int 1, .ref q_13, .ref q_13]) ⟨hx, hb, hml, hown, hg⟩ (m_X5_of l G h_13 mc_22 ms_22 ((x1 : Int32).toInt64) _ hw H.size) (va_cwS 1 hg (x_gS km_X4_32 ks_X5_of kn_X5 kk_X5_of) rfl rfl rfl (by decide +kernel) ⟨Nat.le_of_ble_eq_true rfl, Nat.le_of_ble_eq_true rfl⟩) ⟨x_blind, x_pre hI hK⟩ rfl rfl hl.1 rfl (lv_room (Nat.le_of_ble_eq_true rfl)) dX4_ofFraction_22 ⟨show 0 + 1 + mc_8 + 1 + mc_22 ≤ mc by omega, show 0 + z_1 + ms_8 + 5 + ms_22 ≤ ms by omega⟩) hI (fun r_22 h_22 H locs hw hI => ?_)
  obtain ⟨mc_25, ms_25, hkc1, hks1, hw⟩ := hw
  refine x_cv (va_runI (As := [.int 1, .int 1, .ref q_1, .ref r_22]) (rest := [.ref q_13]) ⟨hx, hb, hml, hown, hg⟩ (m_X4_init l G h_22 mc_25 ms_25 q_13 1 1 q_1 r_22 _ hw H.size) (cwI 4 hg (x_gI kk_X4_init) rfl rfl rfl (hg _ kn_X4) (hg _ km_X4_36) (hg _ ki_X4_init) rfl (by decide +kernel) ⟨Nat.le_of_ble_eq_true rfl, Nat.le_of_ble_eq_true rfl⟩) ⟨x_blind, x_pre hI hK⟩ rfl rfl hl.1 rfl (lv_room (Nat.le_of_ble_eq_true rfl)) dX4_ofFraction_25 ⟨show 0 + 1 + mc_8 + 1 + mc_22 + mc_25 ≤ mc by omega, show 0 + z_1 + ms_8 + 5 + ms_22 + ms_25 ≤ ms by omega⟩) hI (fun h_25 H locs hw hI => ?_)
  exact x_aret hx hb hr (by first | exact Or.inl ⟨_, rfl⟩ | exact Or.inr ⟨_, rfl⟩) hlocks hI hw (by omega) (by omega) dX4_ofFraction_28
-- ===== ExactFilter$Table.has
abbrev rX4_has  : Room := { frames := 0, cells := 0, slots := 0, locals := 0 }
def wj_X4_has_29 (h0 : xH) (post : Int32 → Prop)  (s0 : Int32) : Prop := narrow .boolean (.int s0) = .int s0 ∧ post s0
def wj_X4_has_28 (h0 : xH) (post : Int32 → Prop)   : Prop := wj_X4_has_29 h0 post  0
def wp_X4_has (h0 : xH)  (x0 : Nat) (x1 : Int32) (x2 : Int32) (post : Int32 → Prop) : Prop := (x1 < 0 → wj_X4_has_28 h0 post  ) ∧ (¬ x1 < 0 → ∃ fs_6 : List Value, h0 x0 = some (.inr (4, fs_6)) ∧ ∃ v_6 : Int32, fs_6[0]? = some (.int v_6) ∧ (v_6 ≤ x1 → wj_X4_has_28 h0 post  ) ∧ (¬ v_6 ≤ x1 → (x2 < 0 → wj_X4_has_28 h0 post  ) ∧ (¬ x2 < 0 → ∃ v_18 : Int32, fs_6[1]? = some (.int v_18) ∧ (v_18 ≤ x2 → wj_X4_has_28 h0 post  ) ∧ (¬ v_18 ≤ x2 → wj_X4_has_29 h0 post  1))))
set_option maxHeartbeats 4000000 in
set_option maxRecDepth 100000 in
theorem mj_X4_has_29 (C : CX p s m args meth c G RX4 cX4_has 3 (some .boolean)) (h0 : xH) (post : Int32 → Prop) 
    
    (s0 : Int32) (H : Heap) (locs : List Loc) (ls : Array Slot) (nc ns : Nat) (hw : wj_X4_has_29 h0 post  s0) (hI : x_I G (x_A h0 s.heap.size) s.heap h0 H locs) (hkc : nc + 0 ≤ 0) (hks : ns + 0 ≤ 0) (hl : lv_has ls 3 []) : W p l e (rX4_has) s m args below meth c H locs nc ns (MQ below (x_Qi G h0 s.heap.size (fun r9 h9 => h9 = h0 ∧ post r9)) args s 0 0 (x_A h0 s.heap.size)) (F0 m 29 ls [.int s0]) := by
  obtain ⟨hx, hb, hr, hml, hown, hg, hlocks, hK⟩ := id C
  unfold wj_X4_has_29 at hw
  exact x_zret hx hb hr hw.1 hlocks hI ⟨rfl, hw.2⟩ (by omega) (by omega) dX4_has_29
set_option maxHeartbeats 4000000 in
set_option maxRecDepth 100000 in
theorem mj_X4_has_28 (C : CX p s m args meth c G RX4 cX4_has 3 (some .boolean)) (h0 : xH) (post : Int32 → Prop) 
    
     (H : Heap) (locs : List Loc) (ls : Array Slot) (nc ns : Nat) (hw : wj_X4_has_28 h0 post  ) (hI : x_I G (x_A h0 s.heap.size) s.heap h0 H locs) (hkc : nc + 0 ≤ 0) (hks : ns + 0 ≤ 0) (hl : lv_has ls 3 []) : W p l e (rX4_has) s m args below meth c H locs nc ns (MQ below (x_Qi G h0 s.heap.size (fun r9 h9 => h9 = h0 ∧ post r9)) args s 0 0 (x_A h0 s.heap.size)) (F0 m 28 ls []) := by
  obtain ⟨hx, hb, hr, hml, hown, hg, hlocks, hK⟩ := id C
  unfold wj_X4_has_28 at hw
  refine lv_iconst (v := 0) hx hb dX4_has_28 (by decide) ?_
  exact mj_X4_has_29 C h0 post  _ _ _ _ _ _ hw hI (by omega) (by omega) (lv_sub hl [] rfl)
set_option maxHeartbeats 4000000 in
set_option maxRecDepth 100000 in
theorem m_X4_has (l : Launch) (G : xG) (h0 : xH)  (x0 : Nat) (x1 : Int32) (x2 : Int32) (post : Int32 → Prop) (hw : wp_X4_has h0  x0 x1 x2 post) (sz : Nat) : Met l yX4_has (wu yX4_has cX4_has 3 (some .boolean)) (rX4_has) (x_Pc G [.ref x0, .int x1, .int x2] h0 sz) (x_Qi G h0 sz (fun r9 h9 => h9 = h0 ∧ post r9)) 0 0 (x_A h0 sz) := by
  refine Met.ofW (cc := cX4_has) (maxL := 3) (ret := (some .boolean)) (by decide) rfl ?_
  intro p e s m args below meth c s₁ B hml hv
  obtain ⟨rfl, hsz, hR, hK⟩ := hv
  subst hsz
  have C : CX p s m _ meth c G RX4 cX4_has 3 (some .boolean) := ⟨B.exec, B.bytes, B.returns, hml, findClass_of_methodNamed B.named, x_hg (atoms_spec (ws := wu yX4_has cX4_has 3 (some .boolean)) B.pre), B.notSynchronized, hK⟩
  obtain ⟨hx, hb, hr, hml, hown, hg, hlocks, hK⟩ := id C
  have hI : x_I G (x_A h0 s.heap.size) s.heap h0 s.heap [] := x_I.start hR
  have hkc : 0 + 0 ≤ 0 := by omega
  have hks : 0 + 0 ≤ 0 := by omega
  have hl := lv_entry ([.ref x0, .int x1, .int x2]) (n := 3) (Nat.le_of_ble_eq_true rfl)
  rw [lg_entry_eq]
  generalize (lg_sl ([.ref x0, .int x1, .int x2]) ++ List.replicate (3 - (lg_sl ([.ref x0, .int x1, .int x2])).length) Slot.unset).toArray = ls at hl ⊢
  have hl : lv_has ls 3 [(0, .ref x0), (1, .int x1), (2, .int x2)] := hl
  unfold wp_X4_has at hw
  refine lv_iload_n hx hb dX4_has_0 rfl (lv_at hl 1 rfl) ?_
  refine lv_if_lt (tgt := 28) hx hb dX4_has_1 (by decide) (fun hc1 => ?_) (fun hc1 => ?_)
  · have hw := hw.1 hc1
    exact mj_X4_has_28 C h0 post   _ _ _ _ _ hw hI (by omega) (by omega) (lv_sub hl [] rfl)
  · have hw := hw.2 hc1
    refine lv_iload_n hx hb dX4_has_4 rfl (lv_at hl 1 rfl) ?_
    refine lv_aload_n hx hb dX4_has_5 rfl (lv_at hl 0 rfl) ?_
    obtain ⟨fs_6, he_6, hw⟩ := hw
    obtain ⟨v_6, hv_6, hw⟩ := hw
    refine x_get (ci := 4) (C := RX4) (T := TX4) (N := 5) hx hb hg ku_X4 hown hK hI he_6 rfl 0 (by decide) (hg _ kf_X4_7) (fun _ h9 => h9) hv_6 dX4_has_6 ?_
    refine lv_icmp_ge (tgt := 28) hx hb dX4_has_9 (by decide) (fun hc9 => ?_) (fun hc9 => ?_)
    · have hw := hw.1 hc9
      exact mj_X4_has_28 C h0 post   _ _ _ _ _ hw hI (by omega) (by omega) (lv_sub hl [] rfl)
    · have hw := hw.2 hc9
      refine lv_iload_n hx hb dX4_has_12 rfl (lv_at hl 2 rfl) ?_
      refine lv_if_lt (tgt := 28) hx hb dX4_has_13 (by decide) (fun hc13 => ?_) (fun hc13 => ?_)
      · have hw := hw.1 hc13
        exact mj_X4_has_28 C h0 post   _ _ _ _ _ hw hI (by omega) (by omega) (lv_sub hl [] rfl)
      · have hw := hw.2 hc13
        refine lv_iload_n hx hb dX4_has_16 rfl (lv_at hl 2 rfl) ?_
        refine lv_aload_n hx hb dX4_has_17 rfl (lv_at hl 0 rfl) ?_
        obtain ⟨v_18, hv_18, hw⟩ := hw
        refine x_get (ci := 4) (C := RX4) (T := TX4) (N := 5) hx hb hg ku_X4 hown hK hI he_6 rfl 1 (by decide) (hg _ kf_X4_13) (fun _ h9 => h9) hv_18 dX4_has_18 ?_
        refine lv_icmp_ge (tgt := 28) hx hb dX4_has_21 (by decide) (fun hc21 => ?_) (fun hc21 => ?_)
        · have hw := hw.1 hc21
          exact mj_X4_has_28 C h0 post   _ _ _ _ _ hw hI (by omega) (by omega) (lv_sub hl [] rfl)
        · have hw := hw.2 hc21
          refine lv_iconst (v := 1) hx hb dX4_has_24 (by decide) ?_
          refine lv_goto (tgt := 29) hx hb dX4_has_25 (by decide) ?_
          exact mj_X4_has_29 C h0 post  _ _ _ _ _ _ hw hI (by omega) (by omega) (lv_sub hl [] rfl)
-- ===== ExactFilter$Table.number
abbrev rX4_number (mc ms : Nat) : Room := { frames := 2, cells := mc, slots := ms, locals := 42 }
def wj_X4_number_41  (post : Nat → xH → Prop)  (h : xH) (kc : Nat) (ks : Nat) (x0 : Nat) (x3 : Int32) : Prop := ∃ fs_42 : List Value, h x0 = some (.inr (4, fs_42)) ∧ ∃ v_42 : Nat, fs_42[4]? = some (.ref v_42) ∧ ∃ (n_46 : Nat) (f_46 : Nat → Option Nat), h v_42 = some (.inl (3, n_46, .inr (.inr (.inr (.inr f_46))))) ∧ vp_in x3 n_46 ∧ ∃ y_46 : Nat, (f_46 (x3 : Int32).toNatClampNeg) = some y_46 ∧ post y_46 h
def wp_X4_number (h0 : xH) (mc ms : Nat) (x0 : Nat) (x1 : Int32) (x2 : Int32) (post : Nat → xH → Prop) : Prop := ∃ fs_2 : List Value, h0 x0 = some (.inr (4, fs_2)) ∧ ∃ v_2 : Int32, fs_2[1]? = some (.int v_2) ∧ ∀ (x3_8 : Int32), x3_8 = ((x1 * v_2) + x2) → ∃ v_10 : Nat, fs_2[4]? = some (.ref v_10) ∧ ∃ (n_14 : Nat) (f_14 : Nat → Option Nat), h0 v_10 = some (.inl (3, n_14, .inr (.inr (.inr (.inr f_14))))) ∧ vp_in x3_8 n_14 ∧ ((f_14 (x3_8 : Int32).toNatClampNeg) = none → 1 ≤ mc ∧ 3 ≤ ms ∧ ∀ q_23 : Nat, x_fresh h0 q_23 → ∀ h_23 : xH, h_23 = x_up h0 q_23 (.inr (0, [.null, .null, .int 0])) → ∃ fs_28 : List Value, h_23 x0 = some (.inr (4, fs_28)) ∧ ∃ v_28 : Nat, fs_28[2]? = some (.ref v_28) ∧ ∃ (n_32 : Nat) (f_32 : Nat → Option Nat), h_23 v_28 = some (.inl (2, n_32, .inr (.inr (.inr (.inr f_32))))) ∧ vp_in x3_8 n_32 ∧ ∃ y_32 : Nat, (f_32 (x3_8 : Int32).toNatClampNeg) = some y_32 ∧ ∃ v_34 : Nat, fs_28[3]? = some (.ref v_34) ∧ wp_X0_init h_23  q_23 y_32 v_34 (fun (h_37 : xH) => ∃ (n_40 : Nat) (f_40 : Nat → Option Nat), h_37 v_10 = some (.inl (3, n_40, .inr (.inr (.inr (.inr f_40))))) ∧ vp_in x3_8 n_40 ∧ ∃ vs_40 : List Value, h_37 q_23 = some (.inr (0, vs_40)) ∧ ∀ h_40 : xH, h_40 = x_up h_37 v_10 (.inl (3, n_40, .inr (.inr (.inr (.inr (va_up f_40 (x3_8 : Int32).toNatClampNeg (some q_23))))))) → wj_X4_number_41  post  h_40 (mc - 1) (ms - 3) x0 x3_8)) ∧ (∀ y_14 : Nat, (f_14 (x3_8 : Int32).toNatClampNeg) = some y_14 → wj_X4_number_41  post  h0 mc ms x0 x3_8)
set_option maxHeartbeats 4000000 in
set_option maxRecDepth 100000 in
theorem mj_X4_number_41 (C : CX p s m args meth c G RX4 cX4_number 4 (some (.object "ExactFilter$Fraction"))) (h0 : xH) (mc ms : Nat) (post : Nat → xH → Prop) 
    
    (h : xH) (kc : Nat) (ks : Nat) (x0 : Nat) (x3 : Int32) (H : Heap) (locs : List Loc) (ls : Array Slot) (nc ns : Nat) (hw : wj_X4_number_41  post  h kc ks x0 x3) (hI : x_I G (x_A h0 s.heap.size) s.heap h H locs) (hkc : nc + kc ≤ mc) (hks : ns + ks ≤ ms) (hl : lv_has ls 4 [(0, .ref x0), (3, .int x3)]) : W p l e (rX4_number mc ms) s m args below meth c H locs nc ns (MQ below (x_Qr G h0 s.heap.size post) args s mc ms (x_A h0 s.heap.size)) (F0 m 41 ls []) := by
  obtain ⟨hx, hb, hr, hml, hown, hg, hlocks, hK⟩ := id C
  unfold wj_X4_number_41 at hw
  refine lv_aload_n hx hb dX4_number_41 rfl (lv_at hl 0 rfl) ?_
  obtain ⟨fs_42, he_42, hw⟩ := hw
  obtain ⟨v_42, hv_42, hw⟩ := hw
  refine x_get (ci := 4) (C := RX4) (T := TX4) (N := 5) hx hb hg ku_X4 hown hK hI he_42 rfl 4 (by decide) (hg _ kf_X4_26) (fun _ h9 => h9) hv_42 dX4_number_42 ?_
  refine lv_iload_n hx hb dX4_number_45 rfl (lv_at hl 1 rfl) ?_
  obtain ⟨n_46, f_46, he_46, hw⟩ := hw
  obtain ⟨hi46, hw⟩ := hw
  refine x_aald hx hb hK hI he_46 rfl hi46 dX4_number_46 ?_
  obtain ⟨y_46, ho46, hw⟩ := hw
  rw [ho46]
  refine W.eq (g2 := F0 m 47 ls (.ref y_46 :: [])) rfl ?_
  exact x_aret hx hb hr (by first | exact Or.inl ⟨_, rfl⟩ | exact Or.inr ⟨_, rfl⟩) hlocks hI hw (by omega) (by omega) dX4_number_47
set_option maxHeartbeats 4000000 in
set_option maxRecDepth 100000 in
theorem m_X4_number (l : Launch) (G : xG) (h0 : xH) (mc ms : Nat) (x0 : Nat) (x1 : Int32) (x2 : Int32) (post : Nat → xH → Prop) (hw : wp_X4_number h0 mc ms x0 x1 x2 post) (sz : Nat) : Met l yX4_number (wu yX4_number cX4_number 4 (some (.object "ExactFilter$Fraction"))) (rX4_number mc ms) (x_Pc G [.ref x0, .int x1, .int x2] h0 sz) (x_Qr G h0 sz post) mc ms (x_A h0 sz) := by
  refine Met.ofW (cc := cX4_number) (maxL := 4) (ret := (some (.object "ExactFilter$Fraction"))) (by decide) rfl ?_
  intro p e s m args below meth c s₁ B hml hv
  obtain ⟨rfl, hsz, hR, hK⟩ := hv
  subst hsz
  have C : CX p s m _ meth c G RX4 cX4_number 4 (some (.object "ExactFilter$Fraction")) := ⟨B.exec, B.bytes, B.returns, hml, findClass_of_methodNamed B.named, x_hg (atoms_spec (ws := wu yX4_number cX4_number 4 (some (.object "ExactFilter$Fraction"))) B.pre), B.notSynchronized, hK⟩
  obtain ⟨hx, hb, hr, hml, hown, hg, hlocks, hK⟩ := id C
  have hI : x_I G (x_A h0 s.heap.size) s.heap h0 s.heap [] := x_I.start hR
  have hkc : 0 + mc ≤ mc := by omega
  have hks : 0 + ms ≤ ms := by omega
  have hl := lv_entry ([.ref x0, .int x1, .int x2]) (n := 4) (Nat.le_of_ble_eq_true rfl)
  rw [lg_entry_eq]
  generalize (lg_sl ([.ref x0, .int x1, .int x2]) ++ List.replicate (4 - (lg_sl ([.ref x0, .int x1, .int x2])).length) Slot.unset).toArray = ls at hl ⊢
  have hl : lv_has ls 4 [(0, .ref x0), (1, .int x1), (2, .int x2)] := hl
  unfold wp_X4_number at hw
  refine lv_iload_n hx hb dX4_number_0 rfl (lv_at hl 1 rfl) ?_
  refine lv_aload_n hx hb dX4_number_1 rfl (lv_at hl 0 rfl) ?_
  obtain ⟨fs_2, he_2, hw⟩ := hw
  obtain ⟨v_2, hv_2, hw⟩ := hw
  refine x_get (ci := 4) (C := RX4) (T := TX4) (N := 5) hx hb hg ku_X4 hown hK hI he_2 rfl 1 (by decide) (hg _ kf_X4_13) (fun _ h9 => h9) hv_2 dX4_number_2 ?_
  refine lv_imul hx hb dX4_number_5 ?_
  refine lv_iload_n hx hb dX4_number_6 rfl (lv_at hl 2 rfl) ?_
  refine lv_iadd hx hb dX4_number_7 ?_
  refine lv_topi (fun x3_8 ex3_8 => ?_)
  have hw := hw x3_8 ex3_8
  refine lv_istore_n (lv' := [(3, .int x3_8), (0, .ref x0), (1, .int x1), (2, .int x2)]) hx hb dX4_number_8 rfl hl (by decide) rfl (fun ls hl => ?_)
  refine lv_aload_n hx hb dX4_number_9 rfl (lv_at hl 1 rfl) ?_
  obtain ⟨v_10, hv_10, hw⟩ := hw
  refine x_get (ci := 4) (C := RX4) (T := TX4) (N := 5) hx hb hg ku_X4 hown hK hI he_2 rfl 4 (by decide) (hg _ kf_X4_26) (fun _ h9 => h9) hv_10 dX4_number_10 ?_
  refine lv_iload_n hx hb dX4_number_13 rfl (lv_at hl 0 rfl) ?_
  obtain ⟨n_14, f_14, he_14, hw⟩ := hw
  obtain ⟨hi14, hw⟩ := hw
  refine x_aald hx hb hK hI he_14 rfl hi14 dX4_number_14 ?_
  rcases ho14 : (f_14 (x3_8 : Int32).toNatClampNeg) with _ | y_14
  · have hw := hw.1 ho14
    refine lv_ifnonnullN hx hb dX4_number_15 ?_
    refine lv_aload_n hx hb dX4_number_18 rfl (lv_at hl 1 rfl) ?_
    refine x_get (ci := 4) (C := RX4) (T := TX4) (N := 5) hx hb hg ku_X4 hown hK hI he_2 rfl 4 (by decide) (hg _ kf_X4_26) (fun _ h9 => h9) hv_10 dX4_number_19 ?_
    refine lv_iload_n hx hb dX4_number_22 rfl (lv_at hl 0 rfl) ?_
    obtain ⟨hkc1, hks1, hw⟩ := hw
    refine x_new (ci := 0) (fs := [.null, .null, .int 0]) (C := RX0) (T := TX0) (N := 3) hx hb hg ku_X0 tyX0 tyX0_ok hown (hg _ kl_X4_24) (hg _ kt_X0) (hg _ kn_X0) hK hI rfl (by decide +kernel) (show 0 + 1 ≤ mc by omega) (show 0 + 3 ≤ ms by omega) dX4_number_23 (fun q_23 H hfr23 hI => ?_)
    have hw := hw q_23 hfr23
    obtain ⟨h_23, eh_23⟩ : ∃ z : xH, z = x_up h0 q_23 (.inr (0, [.null, .null, .int 0])) := ⟨_, rfl⟩
    rw [← eh_23] at hI
    have hw := hw h_23 eh_23
    have heh_23 : h_23 q_23 = some (.inr (0, [.null, .null, .int 0])) := by rw [eh_23]; exact x_up_s
    refine lv_dup hx hb dX4_number_26 rfl ?_
    refine lv_aload_n hx hb dX4_number_27 rfl (lv_at hl 1 rfl) ?_
    obtain ⟨fs_28, he_28, hw⟩ := hw
    obtain ⟨v_28, hv_28, hw⟩ := hw
    refine x_get (ci := 4) (C := RX4) (T := TX4) (N := 5) hx hb hg ku_X4 hown hK hI he_28 rfl 2 (by decide) (hg _ kf_X4_16) (fun _ h9 => h9) hv_28 dX4_number_28 ?_
    refine lv_iload_n hx hb dX4_number_31 rfl (lv_at hl 0 rfl) ?_
    obtain ⟨n_32, f_32, he_32, hw⟩ := hw
    obtain ⟨hi32, hw⟩ := hw
    refine x_aald hx hb hK hI he_32 rfl hi32 dX4_number_32 ?_
    obtain ⟨y_32, ho32, hw⟩ := hw
    rw [ho32]
    refine W.eq (g2 := F0 m 33 ls (.ref y_32 :: .ref q_23 :: .ref q_23 :: .int x3_8 :: .ref v_10 :: [])) rfl ?_
    refine lv_aload_n hx hb dX4_number_33 rfl (lv_at hl 1 rfl) ?_
    obtain ⟨v_34, hv_34, hw⟩ := hw
    refine x_get (ci := 4) (C := RX4) (T := TX4) (N := 5) hx hb hg ku_X4 hown hK hI he_28 rfl 3 (by decide) (hg _ kf_X4_20) (fun _ h9 => h9) hv_34 dX4_number_34 ?_
    refine x_cv (va_runI (As := [.ref y_32, .ref v_34]) (rest := [.ref q_23, .int x3_8, .ref v_10]) ⟨hx, hb, hml, hown, hg⟩ (m_X0_init l G h_23  q_23 y_32 v_34 _ hw H.size) (cwI 2 hg (x_gI kk_X0_init) rfl rfl rfl (hg _ kn_X0) (hg _ km_X4_39) (hg _ ki_X0_init) rfl (by decide +kernel) ⟨Nat.le_of_ble_eq_true rfl, Nat.le_of_ble_eq_true rfl⟩) ⟨x_blind, x_pre hI hK⟩ rfl rfl hl.1 rfl (lv_room (Nat.le_of_ble_eq_true rfl)) dX4_number_37 ⟨show 0 + 1 + 0 ≤ mc by omega, show 0 + 3 + 0 ≤ ms by omega⟩) hI (fun h_37 H locs hw hI => ?_)
    obtain ⟨n_40, f_40, he_40, hw⟩ := hw
    obtain ⟨hi40, hw⟩ := hw
    obtain ⟨vs_40, hvs_40, hw⟩ := hw
    refine x_aast (r := (RX0, TX0, 3)) hx hb hK hI he_40 rfl hvs_40 rfl hi40 dX4_number_40 (fun H locs hI => ?_)
    obtain ⟨h_40, eh_40⟩ : ∃ z : xH, z = x_up h_37 v_10 (.inl (3, n_40, .inr (.inr (.inr (.inr (va_up f_40 (x3_8 : Int32).toNatClampNeg (some q_23))))))) := ⟨_, rfl⟩
    rw [← eh_40] at hI
    have hw := hw h_40 eh_40
    have heh_40 : h_40 v_10 = some (.inl (3, n_40, .inr (.inr (.inr (.inr (va_up f_40 (x3_8 : Int32).toNatClampNeg (some q_23))))))) := by rw [eh_40]; exact x_up_s
    exact mj_X4_number_41 C h0 mc ms post  _ _ _ _ _ _ _ _ _ _ hw hI (by omega) (by omega) (lv_sub hl [1, 0] rfl)
  · have hw := hw.2 y_14 ho14
    refine lv_ifnonnull (tgt := 41) hx hb dX4_number_15 (by decide) ?_
    exact mj_X4_number_41 C h0 mc ms post  _ _ _ _ _ _ _ _ _ _ hw hI (by omega) (by omega) (lv_sub hl [1, 0] rfl)
-- ===== ExactFilter$Table.isNothing
abbrev rX4_isNothing  : Room := { frames := 1, cells := 0, slots := 0, locals := 20 }
def wj_X4_isNothing_17 (h0 : xH) (post : Int32 → Prop)  (s0 : Int32) : Prop := narrow .boolean (.int s0) = .int s0 ∧ post s0
def wp_X4_isNothing (h0 : xH)  (x0 : Nat) (post : Int32 → Prop) : Prop := ∃ fs_1 : List Value, h0 x0 = some (.inr (4, fs_1)) ∧ ∃ v_1 : Nat, fs_1[2]? = some (.ref v_1) ∧ ∃ (n_5 : Nat) (f_5 : Nat → Option Nat), h0 v_1 = some (.inl (2, n_5, .inr (.inr (.inr (.inr f_5))))) ∧ vp_in 0 n_5 ∧ ∃ y_5 : Nat, (f_5 (0 : Int32).toNatClampNeg) = some y_5 ∧ ∃ fs_6 : List Value, h0 y_5 = some (.inr (5, fs_6)) ∧ wp_X5_sense h0  y_5 (fun (r_6 : Int32) => (¬ r_6 = 0 → wj_X4_isNothing_17 h0 post  0) ∧ (r_6 = 0 → wj_X4_isNothing_17 h0 post  1))
set_option maxHeartbeats 4000000 in
set_option maxRecDepth 100000 in
theorem mj_X4_isNothing_17 (C : CX p s m args meth c G RX4 cX4_isNothing 1 (some .boolean)) (h0 : xH) (post : Int32 → Prop) 
    
    (s0 : Int32) (H : Heap) (locs : List Loc) (ls : Array Slot) (nc ns : Nat) (hw : wj_X4_isNothing_17 h0 post  s0) (hI : x_I G (x_A h0 s.heap.size) s.heap h0 H locs) (hkc : nc + 0 ≤ 0) (hks : ns + 0 ≤ 0) (hl : lv_has ls 1 []) : W p l e (rX4_isNothing) s m args below meth c H locs nc ns (MQ below (x_Qi G h0 s.heap.size (fun r9 h9 => h9 = h0 ∧ post r9)) args s 0 0 (x_A h0 s.heap.size)) (F0 m 17 ls [.int s0]) := by
  obtain ⟨hx, hb, hr, hml, hown, hg, hlocks, hK⟩ := id C
  unfold wj_X4_isNothing_17 at hw
  exact x_zret hx hb hr hw.1 hlocks hI ⟨rfl, hw.2⟩ (by omega) (by omega) dX4_isNothing_17
set_option maxHeartbeats 4000000 in
set_option maxRecDepth 100000 in
theorem m_X4_isNothing (l : Launch) (G : xG) (h0 : xH)  (x0 : Nat) (post : Int32 → Prop) (hw : wp_X4_isNothing h0  x0 post) (sz : Nat) : Met l yX4_isNothing (wu yX4_isNothing cX4_isNothing 1 (some .boolean)) (rX4_isNothing) (x_Pc G [.ref x0] h0 sz) (x_Qi G h0 sz (fun r9 h9 => h9 = h0 ∧ post r9)) 0 0 (x_A h0 sz) := by
  refine Met.ofW (cc := cX4_isNothing) (maxL := 1) (ret := (some .boolean)) (by decide) rfl ?_
  intro p e s m args below meth c s₁ B hml hv
  obtain ⟨rfl, hsz, hR, hK⟩ := hv
  subst hsz
  have C : CX p s m _ meth c G RX4 cX4_isNothing 1 (some .boolean) := ⟨B.exec, B.bytes, B.returns, hml, findClass_of_methodNamed B.named, x_hg (atoms_spec (ws := wu yX4_isNothing cX4_isNothing 1 (some .boolean)) B.pre), B.notSynchronized, hK⟩
  obtain ⟨hx, hb, hr, hml, hown, hg, hlocks, hK⟩ := id C
  have hI : x_I G (x_A h0 s.heap.size) s.heap h0 s.heap [] := x_I.start hR
  have hkc : 0 + 0 ≤ 0 := by omega
  have hks : 0 + 0 ≤ 0 := by omega
  have hl := lv_entry ([.ref x0]) (n := 1) (Nat.le_of_ble_eq_true rfl)
  rw [lg_entry_eq]
  generalize (lg_sl ([.ref x0]) ++ List.replicate (1 - (lg_sl ([.ref x0])).length) Slot.unset).toArray = ls at hl ⊢
  have hl : lv_has ls 1 [(0, .ref x0)] := hl
  unfold wp_X4_isNothing at hw
  refine lv_aload_n hx hb dX4_isNothing_0 rfl (lv_at hl 0 rfl) ?_
  obtain ⟨fs_1, he_1, hw⟩ := hw
  obtain ⟨v_1, hv_1, hw⟩ := hw
  refine x_get (ci := 4) (C := RX4) (T := TX4) (N := 5) hx hb hg ku_X4 hown hK hI he_1 rfl 2 (by decide) (hg _ kf_X4_16) (fun _ h9 => h9) hv_1 dX4_isNothing_1 ?_
  refine lv_iconst (v := 0) hx hb dX4_isNothing_4 (by decide) ?_
  obtain ⟨n_5, f_5, he_5, hw⟩ := hw
  obtain ⟨hi5, hw⟩ := hw
  refine x_aald hx hb hK hI he_5 rfl hi5 dX4_isNothing_5 ?_
  obtain ⟨y_5, ho5, hw⟩ := hw
  rw [ho5]
  refine W.eq (g2 := F0 m 6 ls (.ref y_5 :: [])) rfl ?_
  obtain ⟨fs_6, he_6, hw⟩ := hw
  refine x_ci (va_runV (As := []) (rest := []) ⟨hx, hb, hml, hown, hg⟩ (m_X5_sense l G h0  y_5 _ hw s.heap.size) (cwV 0 hg (x_gV km_X4_42 ki_X5_sense kz_X5_X5_sense kn_X5 kk_X5_sense) rfl rfl rfl (by decide +kernel) ⟨Nat.le_of_ble_eq_true rfl, Nat.le_of_ble_eq_true rfl⟩) ⟨x_blind, x_recv hI hK he_6 rfl rfl, x_pre hI hK⟩ rfl rfl hl.1 rfl (lv_room (Nat.le_of_ble_eq_true rfl)) dX4_isNothing_6 ⟨show 0 + 0 ≤ 0 by omega, show 0 + 0 ≤ 0 by omega⟩) hI (fun r_6 h_6 H locs hw hI => ?_)
  obtain ⟨eh_6, hw⟩ := hw
  rw [eh_6] at hI
  refine lv_if_ne (tgt := 16) hx hb dX4_isNothing_9 (by decide) (fun hc9 => ?_) (fun hc9 => ?_)
  · have hw := hw.1 hc9
    refine lv_iconst (v := 0) hx hb dX4_isNothing_16 (by decide) ?_
    exact mj_X4_isNothing_17 C h0 post  _ _ _ _ _ _ hw hI (by omega) (by omega) (lv_sub hl [] rfl)
  · have hw := hw.2 hc9
    refine lv_iconst (v := 1) hx hb dX4_isNothing_12 (by decide) ?_
    refine lv_goto (tgt := 17) hx hb dX4_isNothing_13 (by decide) ?_
    exact mj_X4_isNothing_17 C h0 post  _ _ _ _ _ _ hw hI (by omega) (by omega) (lv_sub hl [] rfl)
-- ===== ExactFilter$Table.turned
abbrev rX4_turned (mc ms : Nat) : Room := { frames := 2, cells := mc, slots := ms, locals := 44 }
def wl_X4_turned_21  (post : Nat → xH → Prop) (K58 : xH → Nat → Nat → Nat → Nat → Int32 → Prop) : Nat → xH → Nat → Nat → Nat → Nat → Int32 → Int32 → Prop
  | 0, _, _, _, _, _, _, _ => False
  | n + 1, h, kc, ks, x0, x1, x2, x3 => ∃ fs_23 : List Value, h x0 = some (.inr (4, fs_23)) ∧ ∃ v_23 : Int32, fs_23[1]? = some (.int v_23) ∧ (v_23 ≤ x3 → K58 h kc ks x0 x1 x2) ∧ (¬ v_23 ≤ x3 → ∃ v_32 : Int32, fs_23[0]? = some (.int v_32) ∧ ∃ v_39 : Nat, fs_23[2]? = some (.ref v_39) ∧ ∃ (n_50 : Nat) (f_50 : Nat → Option Nat), h v_39 = some (.inl (2, n_50, .inr (.inr (.inr (.inr f_50))))) ∧ vp_in ((x2 * v_23) + x3) n_50 ∧ ∃ y_50 : Nat, (f_50 (((x2 * v_23) + x3) : Int32).toNatClampNeg) = some y_50 ∧ ∃ (n_51 : Nat) (f_51 : Nat → Option Nat), h x1 = some (.inl (2, n_51, .inr (.inr (.inr (.inr f_51))))) ∧ vp_in ((x3 * v_32) + x2) n_51 ∧ ∃ vs_51 : List Value, h y_50 = some (.inr (5, vs_51)) ∧ ∀ h_51 : xH, h_51 = x_up h x1 (.inl (2, n_51, .inr (.inr (.inr (.inr (va_up f_51 (((x3 * v_32) + x2) : Int32).toNatClampNeg (some y_50))))))) → ∀ (x3_52 : Int32), x3_52 = x3 + 1 → wl_X4_turned_21  post K58 n h_51 kc ks x0 x1 x2 x3_52)
def wl_X4_turned_11  (post : Nat → xH → Prop) (K64 : xH → Nat → Nat → Nat → Nat → Prop) : Nat → xH → Nat → Nat → Nat → Nat → Int32 → Prop
  | 0, _, _, _, _, _, _ => False
  | n + 1, h, kc, ks, x0, x1, x2 => ∃ fs_13 : List Value, h x0 = some (.inr (4, fs_13)) ∧ ∃ v_13 : Int32, fs_13[0]? = some (.int v_13) ∧ (v_13 ≤ x2 → K64 h kc ks x0 x1) ∧ (¬ v_13 ≤ x2 → ∃ n21 : Nat, wl_X4_turned_21  post (fun (h : xH) (kc : Nat) (ks : Nat) (x0 : Nat) (x1 : Nat) (x2 : Int32) => ∀ (x2_58 : Int32), x2_58 = x2 + 1 → wl_X4_turned_11  post K64 n h kc ks x0 x1 x2_58) n21 h kc ks x0 x1 x2 0)
def wp_X4_turned (h0 : xH) (mc ms : Nat) (x0 : Nat) (post : Nat → xH → Prop) : Prop := ∃ fs_1 : List Value, h0 x0 = some (.inr (4, fs_1)) ∧ ∃ v_1 : Nat, fs_1[2]? = some (.ref v_1) ∧ ∃ (n_4 : Nat) (f_4 : Nat → Option Nat), h0 v_1 = some (.inl (2, n_4, .inr (.inr (.inr (.inr f_4))))) ∧ ¬ ((nI n_4) : Int32) < 0 ∧ ∀ z_5 : Nat, ((nI n_4) : Int32).toNatClampNeg = z_5 → z_5 ≤ 60000000 ∧ 1 ≤ mc ∧ z_5 ≤ ms ∧ ∀ q_5 : Nat, x_fresh h0 q_5 → ∀ h_5 : xH, h_5 = x_up h0 q_5 (.inl (2, z_5, .inr (.inr (.inr (.inr (fun _ => none)))))) → ∃ n11 : Nat, wl_X4_turned_11  post (fun (h : xH) (kc : Nat) (ks : Nat) (x0 : Nat) (x1 : Nat) => 1 ≤ kc ∧ 5 ≤ ks ∧ ∀ q_64 : Nat, x_fresh h q_64 → ∀ h_64 : xH, h_64 = x_up h q_64 (.inr (4, [.int 0, .int 0, .null, .null, .null])) → ∃ fs_69 : List Value, h_64 x0 = some (.inr (4, fs_69)) ∧ ∃ v_69 : Int32, fs_69[1]? = some (.int v_69) ∧ ∃ v_73 : Int32, fs_69[0]? = some (.int v_73) ∧ ∃ v_78 : Nat, fs_69[3]? = some (.ref v_78) ∧ ∃ mc_81 ms_81 : Nat, mc_81 ≤ (kc - 1) ∧ ms_81 ≤ (ks - 5) ∧ wp_X4_init h_64 mc_81 ms_81 q_64 v_69 v_73 x1 v_78 (fun (h_81 : xH) => post q_64 h_81)) n11 h_5 (mc - 1) (ms - z_5) x0 q_5 0
set_option maxHeartbeats 4000000 in
set_option maxRecDepth 100000 in
theorem ml_X4_turned_21 (C : CX p s m args meth c G RX4 cX4_turned 4 (some (.object "ExactFilter$Table"))) (h0 : xH) (mc ms : Nat) (post : Nat → xH → Prop) (K58 : xH → Nat → Nat → Nat → Nat → Int32 → Prop)
    (hK58 : (∀ (h : xH) (kc : Nat) (ks : Nat) (x0 : Nat) (x1 : Nat) (x2 : Int32) (H : Heap) (locs : List Loc) (ls : Array Slot) (nc ns : Nat), K58 h kc ks x0 x1 x2 → x_I G (x_A h0 s.heap.size) s.heap h H locs → nc + kc ≤ mc → ns + ks ≤ ms → lv_has ls 4 [(0, .ref x0), (1, .ref x1), (2, .int x2)] → W p l e (rX4_turned mc ms) s m args below meth c H locs nc ns (MQ below (x_Qr G h0 s.heap.size post) args s mc ms (x_A h0 s.heap.size)) (F0 m 58 ls []))) :
    ∀ (n : Nat) (h : xH) (kc : Nat) (ks : Nat) (x0 : Nat) (x1 : Nat) (x2 : Int32) (x3 : Int32) (H : Heap) (locs : List Loc) (ls : Array Slot) (nc ns : Nat), wl_X4_turned_21  post K58 n h kc ks x0 x1 x2 x3 → x_I G (x_A h0 s.heap.size) s.heap h H locs → nc + kc ≤ mc → ns + ks ≤ ms → lv_has ls 4 [(0, .ref x0), (1, .ref x1), (2, .int x2), (3, .int x3)] → W p l e (rX4_turned mc ms) s m args below meth c H locs nc ns (MQ below (x_Qr G h0 s.heap.size post) args s mc ms (x_A h0 s.heap.size)) (F0 m 21 ls []) := by
  obtain ⟨hx, hb, hr, hml, hown, hg, hlocks, hK⟩ := id C
  intro n
  induction n with
  | zero => intro h kc ks x0 x1 x2 x3 H locs ls nc ns hw; exact absurd hw id
  | succ n ih =>
    intro h kc ks x0 x1 x2 x3 H locs ls nc ns hw hI hkc hks hl
    refine lv_iload_n hx hb dX4_turned_21 rfl (lv_at hl 3 rfl) ?_
    refine lv_aload_n hx hb dX4_turned_22 rfl (lv_at hl 0 rfl) ?_
    obtain ⟨fs_23, he_23, hw⟩ := hw
    obtain ⟨v_23, hv_23, hw⟩ := hw
    refine x_get (ci := 4) (C := RX4) (T := TX4) (N := 5) hx hb hg ku_X4 hown hK hI he_23 rfl 1 (by decide) (hg _ kf_X4_13) (fun _ h9 => h9) hv_23 dX4_turned_23 ?_
    refine lv_icmp_ge (tgt := 58) hx hb dX4_turned_26 (by decide) (fun hc26 => ?_) (fun hc26 => ?_)
    · have hw := hw.1 hc26
      exact hK58 _ _ _ _ _ _ _ _ _ _ _ hw hI (by omega) (by omega) (lv_sub hl [0, 1, 2] rfl)
    · have hw := hw.2 hc26
      refine lv_aload_n hx hb dX4_turned_29 rfl (lv_at hl 1 rfl) ?_
      refine lv_iload_n hx hb dX4_turned_30 rfl (lv_at hl 3 rfl) ?_
      refine lv_aload_n hx hb dX4_turned_31 rfl (lv_at hl 0 rfl) ?_
      obtain ⟨v_32, hv_32, hw⟩ := hw
      refine x_get (ci := 4) (C := RX4) (T := TX4) (N := 5) hx hb hg ku_X4 hown hK hI he_23 rfl 0 (by decide) (hg _ kf_X4_7) (fun _ h9 => h9) hv_32 dX4_turned_32 ?_
      refine lv_imul hx hb dX4_turned_35 ?_
      refine lv_iload_n hx hb dX4_turned_36 rfl (lv_at hl 2 rfl) ?_
      refine lv_iadd hx hb dX4_turned_37 ?_
      refine lv_aload_n hx hb dX4_turned_38 rfl (lv_at hl 0 rfl) ?_
      obtain ⟨v_39, hv_39, hw⟩ := hw
      refine x_get (ci := 4) (C := RX4) (T := TX4) (N := 5) hx hb hg ku_X4 hown hK hI he_23 rfl 2 (by decide) (hg _ kf_X4_16) (fun _ h9 => h9) hv_39 dX4_turned_39 ?_
      refine lv_iload_n hx hb dX4_turned_42 rfl (lv_at hl 2 rfl) ?_
      refine lv_aload_n hx hb dX4_turned_43 rfl (lv_at hl 0 rfl) ?_
      refine x_get (ci := 4) (C := RX4) (T := TX4) (N := 5) hx hb hg ku_X4 hown hK hI he_23 rfl 1 (by decide) (hg _ kf_X4_13) (fun _ h9 => h9) hv_23 dX4_turned_44 ?_
      refine lv_imul hx hb dX4_turned_47 ?_
      refine lv_iload_n hx hb dX4_turned_48 rfl (lv_at hl 3 rfl) ?_
      refine lv_iadd hx hb dX4_turned_49 ?_
      obtain ⟨n_50, f_50, he_50, hw⟩ := hw
      obtain ⟨hi50, hw⟩ := hw
      refine x_aald hx hb hK hI he_50 rfl hi50 dX4_turned_50 ?_
      obtain ⟨y_50, ho50, hw⟩ := hw
      rw [ho50]
      refine W.eq (g2 := F0 m 51 ls (.ref y_50 :: .int ((x3 * v_32) + x2) :: .ref x1 :: [])) rfl ?_
      obtain ⟨n_51, f_51, he_51, hw⟩ := hw
      obtain ⟨hi51, hw⟩ := hw
      obtain ⟨vs_51, hvs_51, hw⟩ := hw
      refine x_aast (r := (RX5, TX5, 3)) hx hb hK hI he_51 rfl hvs_51 rfl hi51 dX4_turned_51 (fun H locs hI => ?_)
      obtain ⟨h_51, eh_51⟩ : ∃ z : xH, z = x_up h x1 (.inl (2, n_51, .inr (.inr (.inr (.inr (va_up f_51 (((x3 * v_32) + x2) : Int32).toNatClampNeg (some y_50))))))) := ⟨_, rfl⟩
      rw [← eh_51] at hI
      have hw := hw h_51 eh_51
      have heh_51 : h_51 x1 = some (.inl (2, n_51, .inr (.inr (.inr (.inr (va_up f_51 (((x3 * v_32) + x2) : Int32).toNatClampNeg (some y_50))))))) := by rw [eh_51]; exact x_up_s
      obtain ⟨x3_52, ex3_52⟩ : ∃ y : Int32, y = x3 + 1 := ⟨_, rfl⟩
      have hw := hw x3_52 ex3_52
      refine lv_iinc (v := x3_52) (lv' := [(3, .int x3_52), (0, .ref x0), (1, .ref x1), (2, .int x2)]) hx hb dX4_turned_52 hl (k := 3) rfl (by rw [ex3_52]; rfl) (by decide) rfl (fun ls hl => ?_)
      refine lv_goto (tgt := 21) hx hb dX4_turned_55 (by decide) ?_
      exact ih _ _ _ _ _ _ _ _ _ _ _ _ hw hI (by omega) (by omega) (lv_sub hl [1, 2, 3, 0] rfl)
set_option maxHeartbeats 4000000 in
set_option maxRecDepth 100000 in
theorem ml_X4_turned_11 (C : CX p s m args meth c G RX4 cX4_turned 4 (some (.object "ExactFilter$Table"))) (h0 : xH) (mc ms : Nat) (post : Nat → xH → Prop) (K64 : xH → Nat → Nat → Nat → Nat → Prop)
    (hK64 : (∀ (h : xH) (kc : Nat) (ks : Nat) (x0 : Nat) (x1 : Nat) (H : Heap) (locs : List Loc) (ls : Array Slot) (nc ns : Nat), K64 h kc ks x0 x1 → x_I G (x_A h0 s.heap.size) s.heap h H locs → nc + kc ≤ mc → ns + ks ≤ ms → lv_has ls 4 [(0, .ref x0), (1, .ref x1)] → W p l e (rX4_turned mc ms) s m args below meth c H locs nc ns (MQ below (x_Qr G h0 s.heap.size post) args s mc ms (x_A h0 s.heap.size)) (F0 m 64 ls []))) :
    ∀ (n : Nat) (h : xH) (kc : Nat) (ks : Nat) (x0 : Nat) (x1 : Nat) (x2 : Int32) (H : Heap) (locs : List Loc) (ls : Array Slot) (nc ns : Nat), wl_X4_turned_11  post K64 n h kc ks x0 x1 x2 → x_I G (x_A h0 s.heap.size) s.heap h H locs → nc + kc ≤ mc → ns + ks ≤ ms → lv_has ls 4 [(0, .ref x0), (1, .ref x1), (2, .int x2)] → W p l e (rX4_turned mc ms) s m args below meth c H locs nc ns (MQ below (x_Qr G h0 s.heap.size post) args s mc ms (x_A h0 s.heap.size)) (F0 m 11 ls []) := by
  obtain ⟨hx, hb, hr, hml, hown, hg, hlocks, hK⟩ := id C
  intro n
  induction n with
  | zero => intro h kc ks x0 x1 x2 H locs ls nc ns hw; exact absurd hw id
  | succ n ih =>
    intro h kc ks x0 x1 x2 H locs ls nc ns hw hI hkc hks hl
    refine lv_iload_n hx hb dX4_turned_11 rfl (lv_at hl 2 rfl) ?_
    refine lv_aload_n hx hb dX4_turned_12 rfl (lv_at hl 0 rfl) ?_
    obtain ⟨fs_13, he_13, hw⟩ := hw
    obtain ⟨v_13, hv_13, hw⟩ := hw
    refine x_get (ci := 4) (C := RX4) (T := TX4) (N := 5) hx hb hg ku_X4 hown hK hI he_13 rfl 0 (by decide) (hg _ kf_X4_7) (fun _ h9 => h9) hv_13 dX4_turned_13 ?_
    refine lv_icmp_ge (tgt := 64) hx hb dX4_turned_16 (by decide) (fun hc16 => ?_) (fun hc16 => ?_)
    · have hw := hw.1 hc16
      exact hK64 _ _ _ _ _ _ _ _ _ _ hw hI (by omega) (by omega) (lv_sub hl [0, 1] rfl)
    · have hw := hw.2 hc16
      refine lv_iconst (v := 0) hx hb dX4_turned_19 (by decide) ?_
      refine lv_istore_n (lv' := [(3, .int 0), (0, .ref x0), (1, .ref x1), (2, .int x2)]) hx hb dX4_turned_20 rfl hl (by decide) rfl (fun ls hl => ?_)
      obtain ⟨n21, hw⟩ := hw
      refine ml_X4_turned_21 C h0 mc ms post _ ?_ n21 _ _ _ _ _ _ _ _ _ _ _ _ hw hI (by omega) (by omega) (lv_sub hl [1, 2, 3, 0] rfl)
      · intro h kc ks x0 x1 x2 H locs ls nc ns hw hI hkc hks hl
        obtain ⟨x2_58, ex2_58⟩ : ∃ y : Int32, y = x2 + 1 := ⟨_, rfl⟩
        have hw := hw x2_58 ex2_58
        refine lv_iinc (v := x2_58) (lv' := [(2, .int x2_58), (0, .ref x0), (1, .ref x1)]) hx hb dX4_turned_58 hl (k := 2) rfl (by rw [ex2_58]; rfl) (by decide) rfl (fun ls hl => ?_)
        refine lv_goto (tgt := 11) hx hb dX4_turned_61 (by decide) ?_
        exact ih _ _ _ _ _ _ _ _ _ _ _ hw hI (by omega) (by omega) (lv_sub hl [1, 2, 0] rfl)
set_option maxHeartbeats 4000000 in
set_option maxRecDepth 100000 in
theorem m_X4_turned (l : Launch) (G : xG) (h0 : xH) (mc ms : Nat) (x0 : Nat) (post : Nat → xH → Prop) (hw : wp_X4_turned h0 mc ms x0 post) (sz : Nat) : Met l yX4_turned (wu yX4_turned cX4_turned 4 (some (.object "ExactFilter$Table"))) (rX4_turned mc ms) (x_Pc G [.ref x0] h0 sz) (x_Qr G h0 sz post) mc ms (x_A h0 sz) := by
  refine Met.ofW (cc := cX4_turned) (maxL := 4) (ret := (some (.object "ExactFilter$Table"))) (by decide) rfl ?_
  intro p e s m args below meth c s₁ B hml hv
  obtain ⟨rfl, hsz, hR, hK⟩ := hv
  subst hsz
  have C : CX p s m _ meth c G RX4 cX4_turned 4 (some (.object "ExactFilter$Table")) := ⟨B.exec, B.bytes, B.returns, hml, findClass_of_methodNamed B.named, x_hg (atoms_spec (ws := wu yX4_turned cX4_turned 4 (some (.object "ExactFilter$Table"))) B.pre), B.notSynchronized, hK⟩
  obtain ⟨hx, hb, hr, hml, hown, hg, hlocks, hK⟩ := id C
  have hI : x_I G (x_A h0 s.heap.size) s.heap h0 s.heap [] := x_I.start hR
  have hkc : 0 + mc ≤ mc := by omega
  have hks : 0 + ms ≤ ms := by omega
  have hl := lv_entry ([.ref x0]) (n := 4) (Nat.le_of_ble_eq_true rfl)
  rw [lg_entry_eq]
  generalize (lg_sl ([.ref x0]) ++ List.replicate (4 - (lg_sl ([.ref x0])).length) Slot.unset).toArray = ls at hl ⊢
  have hl : lv_has ls 4 [(0, .ref x0)] := hl
  unfold wp_X4_turned at hw
  refine lv_aload_n hx hb dX4_turned_0 rfl (lv_at hl 0 rfl) ?_
  obtain ⟨fs_1, he_1, hw⟩ := hw
  obtain ⟨v_1, hv_1, hw⟩ := hw
  refine x_get (ci := 4) (C := RX4) (T := TX4) (N := 5) hx hb hg ku_X4 hown hK hI he_1 rfl 2 (by decide) (hg _ kf_X4_16) (fun _ h9 => h9) hv_1 dX4_turned_1 ?_
  obtain ⟨n_4, f_4, he_4, hw⟩ := hw
  refine x_alen hx hb hK hI he_4 rfl dX4_turned_4 ?_
  refine W.eq (g2 := F0 m 5 ls (.int (nI n_4) :: [])) rfl ?_
  obtain ⟨hneg5, hw⟩ := hw
  obtain ⟨z_5, hz5⟩ : ∃ z : Nat, ((nI n_4) : Int32).toNatClampNeg = z := ⟨_, rfl⟩
  obtain ⟨hz25, hkc1, hks1, hw⟩ := hw z_5 hz5
  refine x_newq (t0 := 2) hx hb hown (hg _ kl_X4_30) hK.2.1 hK hI rfl hneg5 hz5 (by omega) (show 0 + 1 ≤ mc by omega) (show 0 + z_5 ≤ ms by omega) dX4_turned_5 (fun q_5 H hfr5 hI => ?_)
  have hw := hw q_5 hfr5
  obtain ⟨h_5, eh_5⟩ : ∃ z : xH, z = x_up h0 q_5 (.inl (2, z_5, .inr (.inr (.inr (.inr (fun _ => none)))))) := ⟨_, rfl⟩
  rw [← eh_5] at hI
  have hw := hw h_5 eh_5
  have heh_5 : h_5 q_5 = some (.inl (2, z_5, .inr (.inr (.inr (.inr (fun _ => none)))))) := by rw [eh_5]; exact x_up_s
  refine lv_astore_n (lv' := [(1, .ref q_5), (0, .ref x0)]) hx hb dX4_turned_8 rfl hl (by decide) rfl (fun ls hl => ?_)
  refine lv_iconst (v := 0) hx hb dX4_turned_9 (by decide) ?_
  refine lv_istore_n (lv' := [(2, .int 0), (1, .ref q_5), (0, .ref x0)]) hx hb dX4_turned_10 rfl hl (by decide) rfl (fun ls hl => ?_)
  obtain ⟨n11, hw⟩ := hw
  refine ml_X4_turned_11 C h0 mc ms post _ ?_ n11 _ _ _ _ _ _ _ _ _ _ _ hw hI (by omega) (by omega) (lv_sub hl [2, 1, 0] rfl)
  · intro h kc ks x0 x1 H locs ls nc ns hw hI hkc hks hl
    obtain ⟨hkc1, hks1, hw⟩ := hw
    refine x_new (ci := 4) (fs := [.int 0, .int 0, .null, .null, .null]) (C := RX4) (T := TX4) (N := 5) hx hb hg ku_X4 tyX4 tyX4_ok hown (hg _ kl_X4_8) (hg _ kt_X4) (hg _ kn_X4) hK hI rfl (by decide +kernel) (show nc + 1 ≤ mc by omega) (show ns + 5 ≤ ms by omega) dX4_turned_64 (fun q_64 H hfr64 hI => ?_)
    have hw := hw q_64 hfr64
    obtain ⟨h_64, eh_64⟩ : ∃ z : xH, z = x_up h q_64 (.inr (4, [.int 0, .int 0, .null, .null, .null])) := ⟨_, rfl⟩
    rw [← eh_64] at hI
    have hw := hw h_64 eh_64
    have heh_64 : h_64 q_64 = some (.inr (4, [.int 0, .int 0, .null, .null, .null])) := by rw [eh_64]; exact x_up_s
    refine lv_dup hx hb dX4_turned_67 rfl ?_
    refine lv_aload_n hx hb dX4_turned_68 rfl (lv_at hl 0 rfl) ?_
    obtain ⟨fs_69, he_69, hw⟩ := hw
    obtain ⟨v_69, hv_69, hw⟩ := hw
    refine x_get (ci := 4) (C := RX4) (T := TX4) (N := 5) hx hb hg ku_X4 hown hK hI he_69 rfl 1 (by decide) (hg _ kf_X4_13) (fun _ h9 => h9) hv_69 dX4_turned_69 ?_
    refine lv_aload_n hx hb dX4_turned_72 rfl (lv_at hl 0 rfl) ?_
    obtain ⟨v_73, hv_73, hw⟩ := hw
    refine x_get (ci := 4) (C := RX4) (T := TX4) (N := 5) hx hb hg ku_X4 hown hK hI he_69 rfl 0 (by decide) (hg _ kf_X4_7) (fun _ h9 => h9) hv_73 dX4_turned_73 ?_
    refine lv_aload_n hx hb dX4_turned_76 rfl (lv_at hl 1 rfl) ?_
    refine lv_aload_n hx hb dX4_turned_77 rfl (lv_at hl 0 rfl) ?_
    obtain ⟨v_78, hv_78, hw⟩ := hw
    refine x_get (ci := 4) (C := RX4) (T := TX4) (N := 5) hx hb hg ku_X4 hown hK hI he_69 rfl 3 (by decide) (hg _ kf_X4_20) (fun _ h9 => h9) hv_78 dX4_turned_78 ?_
    obtain ⟨mc_81, ms_81, hkc1, hks1, hw⟩ := hw
    refine x_cv (va_runI (As := [.int v_69, .int v_73, .ref x1, .ref v_78]) (rest := [.ref q_64]) ⟨hx, hb, hml, hown, hg⟩ (m_X4_init l G h_64 mc_81 ms_81 q_64 v_69 v_73 x1 v_78 _ hw H.size) (cwI 4 hg (x_gI kk_X4_init) rfl rfl rfl (hg _ kn_X4) (hg _ km_X4_36) (hg _ ki_X4_init) rfl (by decide +kernel) ⟨Nat.le_of_ble_eq_true rfl, Nat.le_of_ble_eq_true rfl⟩) ⟨x_blind, x_pre hI hK⟩ rfl rfl hl.1 rfl (lv_room (Nat.le_of_ble_eq_true rfl)) dX4_turned_81 ⟨show nc + 1 + mc_81 ≤ mc by omega, show ns + 5 + ms_81 ≤ ms by omega⟩) hI (fun h_81 H locs hw hI => ?_)
    exact x_aret hx hb hr (by first | exact Or.inl ⟨_, rfl⟩ | exact Or.inr ⟨_, rfl⟩) hlocks hI hw (by omega) (by omega) dX4_turned_84
-- ===== ExactFilter$Table.rowTimesColumn
abbrev rX4_rowTimesColumn (mc ms : Nat) : Room := { frames := 3, cells := mc, slots := ms, locals := 73 }
def wl_X4_rowTimesColumn_25  (post : Nat → xH → Prop) (K78 : xH → Nat → Nat → Nat → Prop) : Nat → xH → Nat → Nat → Nat → Int32 → Nat → Int32 → Nat → Int32 → Prop
  | 0, _, _, _, _, _, _, _, _, _ => False
  | n + 1, h, kc, ks, x0, x1, x2, x3, x4, x5 => ∃ fs_28 : List Value, h x0 = some (.inr (4, fs_28)) ∧ ∃ v_28 : Int32, fs_28[1]? = some (.int v_28) ∧ (v_28 ≤ x5 → K78 h kc ks x4) ∧ (¬ v_28 ≤ x5 → ∃ v_37 : Nat, fs_28[2]? = some (.ref v_37) ∧ ∃ (n_49 : Nat) (f_49 : Nat → Option Nat), h v_37 = some (.inl (2, n_49, .inr (.inr (.inr (.inr f_49))))) ∧ vp_in ((x1 * v_28) + x5) n_49 ∧ ∃ y_49 : Nat, (f_49 (((x1 * v_28) + x5) : Int32).toNatClampNeg) = some y_49 ∧ ∃ fs_51 : List Value, h x2 = some (.inr (4, fs_51)) ∧ ∃ v_51 : Nat, fs_51[2]? = some (.ref v_51) ∧ ∃ v_57 : Int32, fs_51[1]? = some (.int v_57) ∧ ∃ (n_63 : Nat) (f_63 : Nat → Option Nat), h v_51 = some (.inl (2, n_63, .inr (.inr (.inr (.inr f_63))))) ∧ vp_in ((x5 * v_57) + x3) n_63 ∧ ∃ y_63 : Nat, (f_63 (((x5 * v_57) + x3) : Int32).toNatClampNeg) = some y_63 ∧ ∃ fs_64 : List Value, h y_49 = some (.inr (5, fs_64)) ∧ ∃ mc_64 ms_64 : Nat, mc_64 ≤ kc ∧ ms_64 ≤ ks ∧ wp_X5_times h mc_64 ms_64 y_49 y_63 (fun (r_64 : Nat) (h_64 : xH) => ∃ fs_67 : List Value, h_64 x4 = some (.inr (5, fs_67)) ∧ ∃ mc_67 ms_67 : Nat, mc_67 ≤ (kc - mc_64) ∧ ms_67 ≤ (ks - ms_64) ∧ wp_X5_plus h_64 mc_67 ms_67 x4 r_64 (fun (r_67 : Nat) (h_67 : xH) => ∀ (x5_72 : Int32), x5_72 = x5 + 1 → wl_X4_rowTimesColumn_25  post K78 n h_67 ((kc - mc_64) - mc_67) ((ks - ms_64) - ms_67) x0 x1 x2 x3 r_67 x5_72)))
def wp_X4_rowTimesColumn (h0 : xH) (mc ms : Nat) (x0 : Nat) (x1 : Int32) (x2 : Nat) (x3 : Int32) (post : Nat → xH → Prop) : Prop := ∃ fs_1 : List Value, h0 x0 = some (.inr (4, fs_1)) ∧ ∃ v_1 : Nat, fs_1[2]? = some (.ref v_1) ∧ ∃ v_6 : Int32, fs_1[1]? = some (.int v_6) ∧ ∃ (n_10 : Nat) (f_10 : Nat → Option Nat), h0 v_1 = some (.inl (2, n_10, .inr (.inr (.inr (.inr f_10))))) ∧ vp_in (x1 * v_6) n_10 ∧ ∃ y_10 : Nat, (f_10 ((x1 * v_6) : Int32).toNatClampNeg) = some y_10 ∧ ∃ fs_12 : List Value, h0 x2 = some (.inr (4, fs_12)) ∧ ∃ v_12 : Nat, fs_12[2]? = some (.ref v_12) ∧ ∃ (n_16 : Nat) (f_16 : Nat → Option Nat), h0 v_12 = some (.inl (2, n_16, .inr (.inr (.inr (.inr f_16))))) ∧ vp_in x3 n_16 ∧ ∃ y_16 : Nat, (f_16 (x3 : Int32).toNatClampNeg) = some y_16 ∧ ∃ fs_17 : List Value, h0 y_10 = some (.inr (5, fs_17)) ∧ ∃ mc_17 ms_17 : Nat, mc_17 ≤ mc ∧ ms_17 ≤ ms ∧ wp_X5_times h0 mc_17 ms_17 y_10 y_16 (fun (r_17 : Nat) (h_17 : xH) => ∃ n25 : Nat, wl_X4_rowTimesColumn_25  post (fun (h : xH) (kc : Nat) (ks : Nat) (x4 : Nat) => post x4 h) n25 h_17 (mc - mc_17) (ms - ms_17) x0 x1 x2 x3 r_17 1)
set_option maxHeartbeats 4000000 in
set_option maxRecDepth 100000 in
theorem ml_X4_rowTimesColumn_25 (C : CX p s m args meth c G RX4 cX4_rowTimesColumn 6 (some (.object "ExactFilter$Whole"))) (h0 : xH) (mc ms : Nat) (post : Nat → xH → Prop) (K78 : xH → Nat → Nat → Nat → Prop)
    (hK78 : (∀ (h : xH) (kc : Nat) (ks : Nat) (x4 : Nat) (H : Heap) (locs : List Loc) (ls : Array Slot) (nc ns : Nat), K78 h kc ks x4 → x_I G (x_A h0 s.heap.size) s.heap h H locs → nc + kc ≤ mc → ns + ks ≤ ms → lv_has ls 6 [(4, .ref x4)] → W p l e (rX4_rowTimesColumn mc ms) s m args below meth c H locs nc ns (MQ below (x_Qr G h0 s.heap.size post) args s mc ms (x_A h0 s.heap.size)) (F0 m 78 ls []))) :
    ∀ (n : Nat) (h : xH) (kc : Nat) (ks : Nat) (x0 : Nat) (x1 : Int32) (x2 : Nat) (x3 : Int32) (x4 : Nat) (x5 : Int32) (H : Heap) (locs : List Loc) (ls : Array Slot) (nc ns : Nat), wl_X4_rowTimesColumn_25  post K78 n h kc ks x0 x1 x2 x3 x4 x5 → x_I G (x_A h0 s.heap.size) s.heap h H locs → nc + kc ≤ mc → ns + ks ≤ ms → lv_has ls 6 [(0, .ref x0), (1, .int x1), (2, .ref x2), (3, .int x3), (4, .ref x4), (5, .int x5)] → W p l e (rX4_rowTimesColumn mc ms) s m args below meth c H locs nc ns (MQ below (x_Qr G h0 s.heap.size post) args s mc ms (x_A h0 s.heap.size)) (F0 m 25 ls []) := by
  obtain ⟨hx, hb, hr, hml, hown, hg, hlocks, hK⟩ := id C
  intro n
  induction n with
  | zero => intro h kc ks x0 x1 x2 x3 x4 x5 H locs ls nc ns hw; exact absurd hw id
  | succ n ih =>
    intro h kc ks x0 x1 x2 x3 x4 x5 H locs ls nc ns hw hI hkc hks hl
    refine lv_iload hx hb dX4_rowTimesColumn_25 (lv_at hl 5 rfl) ?_
    refine lv_aload_n hx hb dX4_rowTimesColumn_27 rfl (lv_at hl 0 rfl) ?_
    obtain ⟨fs_28, he_28, hw⟩ := hw
    obtain ⟨v_28, hv_28, hw⟩ := hw
    refine x_get (ci := 4) (C := RX4) (T := TX4) (N := 5) hx hb hg ku_X4 hown hK hI he_28 rfl 1 (by decide) (hg _ kf_X4_13) (fun _ h9 => h9) hv_28 dX4_rowTimesColumn_28 ?_
    refine lv_icmp_ge (tgt := 78) hx hb dX4_rowTimesColumn_31 (by decide) (fun hc31 => ?_) (fun hc31 => ?_)
    · have hw := hw.1 hc31
      exact hK78 _ _ _ _ _ _ _ _ _ hw hI (by omega) (by omega) (lv_sub hl [4] rfl)
    · have hw := hw.2 hc31
      refine lv_aload hx hb dX4_rowTimesColumn_34 (lv_at hl 4 rfl) ?_
      refine lv_aload_n hx hb dX4_rowTimesColumn_36 rfl (lv_at hl 0 rfl) ?_
      obtain ⟨v_37, hv_37, hw⟩ := hw
      refine x_get (ci := 4) (C := RX4) (T := TX4) (N := 5) hx hb hg ku_X4 hown hK hI he_28 rfl 2 (by decide) (hg _ kf_X4_16) (fun _ h9 => h9) hv_37 dX4_rowTimesColumn_37 ?_
      refine lv_iload_n hx hb dX4_rowTimesColumn_40 rfl (lv_at hl 1 rfl) ?_
      refine lv_aload_n hx hb dX4_rowTimesColumn_41 rfl (lv_at hl 0 rfl) ?_
      refine x_get (ci := 4) (C := RX4) (T := TX4) (N := 5) hx hb hg ku_X4 hown hK hI he_28 rfl 1 (by decide) (hg _ kf_X4_13) (fun _ h9 => h9) hv_28 dX4_rowTimesColumn_42 ?_
      refine lv_imul hx hb dX4_rowTimesColumn_45 ?_
      refine lv_iload hx hb dX4_rowTimesColumn_46 (lv_at hl 5 rfl) ?_
      refine lv_iadd hx hb dX4_rowTimesColumn_48 ?_
      obtain ⟨n_49, f_49, he_49, hw⟩ := hw
      obtain ⟨hi49, hw⟩ := hw
      refine x_aald hx hb hK hI he_49 rfl hi49 dX4_rowTimesColumn_49 ?_
      obtain ⟨y_49, ho49, hw⟩ := hw
      rw [ho49]
      refine W.eq (g2 := F0 m 50 ls (.ref y_49 :: .ref x4 :: [])) rfl ?_
      refine lv_aload_n hx hb dX4_rowTimesColumn_50 rfl (lv_at hl 2 rfl) ?_
      obtain ⟨fs_51, he_51, hw⟩ := hw
      obtain ⟨v_51, hv_51, hw⟩ := hw
      refine x_get (ci := 4) (C := RX4) (T := TX4) (N := 5) hx hb hg ku_X4 hown hK hI he_51 rfl 2 (by decide) (hg _ kf_X4_16) (fun _ h9 => h9) hv_51 dX4_rowTimesColumn_51 ?_
      refine lv_iload hx hb dX4_rowTimesColumn_54 (lv_at hl 5 rfl) ?_
      refine lv_aload_n hx hb dX4_rowTimesColumn_56 rfl (lv_at hl 2 rfl) ?_
      obtain ⟨v_57, hv_57, hw⟩ := hw
      refine x_get (ci := 4) (C := RX4) (T := TX4) (N := 5) hx hb hg ku_X4 hown hK hI he_51 rfl 1 (by decide) (hg _ kf_X4_13) (fun _ h9 => h9) hv_57 dX4_rowTimesColumn_57 ?_
      refine lv_imul hx hb dX4_rowTimesColumn_60 ?_
      refine lv_iload_n hx hb dX4_rowTimesColumn_61 rfl (lv_at hl 3 rfl) ?_
      refine lv_iadd hx hb dX4_rowTimesColumn_62 ?_
      obtain ⟨n_63, f_63, he_63, hw⟩ := hw
      obtain ⟨hi63, hw⟩ := hw
      refine x_aald hx hb hK hI he_63 rfl hi63 dX4_rowTimesColumn_63 ?_
      obtain ⟨y_63, ho63, hw⟩ := hw
      rw [ho63]
      refine W.eq (g2 := F0 m 64 ls (.ref y_63 :: .ref y_49 :: .ref x4 :: [])) rfl ?_
      obtain ⟨fs_64, he_64, hw⟩ := hw
      obtain ⟨mc_64, ms_64, hkc1, hks1, hw⟩ := hw
      refine x_cr (va_runV (As := [.ref y_63]) (rest := [.ref x4]) ⟨hx, hb, hml, hown, hg⟩ (m_X5_times l G h mc_64 ms_64 y_49 y_63 _ hw H.size) (cwV 1 hg (x_gV km_X4_50 ki_X5_times kz_X5_X5_times kn_X5 kk_X5_times) rfl rfl rfl (by decide +kernel) ⟨Nat.le_of_ble_eq_true rfl, Nat.le_of_ble_eq_true rfl⟩) ⟨x_blind, x_recv hI hK he_64 rfl rfl, x_pre hI hK⟩ rfl rfl hl.1 rfl (lv_room (Nat.le_of_ble_eq_true rfl)) dX4_rowTimesColumn_64 ⟨show nc + mc_64 ≤ mc by omega, show ns + ms_64 ≤ ms by omega⟩) hI (fun r_64 h_64 H locs hw hI => ?_)
      obtain ⟨fs_67, he_67, hw⟩ := hw
      obtain ⟨mc_67, ms_67, hkc1, hks1, hw⟩ := hw
      refine x_cr (va_runV (As := [.ref r_64]) (rest := []) ⟨hx, hb, hml, hown, hg⟩ (m_X5_plus l G h_64 mc_67 ms_67 x4 r_64 _ hw H.size) (cwV 1 hg (x_gV km_X4_54 ki_X5_plus kz_X5_X5_plus kn_X5 kk_X5_plus) rfl rfl rfl (by decide +kernel) ⟨Nat.le_of_ble_eq_true rfl, Nat.le_of_ble_eq_true rfl⟩) ⟨x_blind, x_recv hI hK he_67 rfl rfl, x_pre hI hK⟩ rfl rfl hl.1 rfl (lv_room (Nat.le_of_ble_eq_true rfl)) dX4_rowTimesColumn_67 ⟨show nc + mc_64 + mc_67 ≤ mc by omega, show ns + ms_64 + ms_67 ≤ ms by omega⟩) hI (fun r_67 h_67 H locs hw hI => ?_)
      refine lv_astore (lv' := [(4, .ref r_67), (0, .ref x0), (1, .int x1), (2, .ref x2), (3, .int x3), (5, .int x5)]) hx hb dX4_rowTimesColumn_70 hl (by decide) rfl (fun ls hl => ?_)
      obtain ⟨x5_72, ex5_72⟩ : ∃ y : Int32, y = x5 + 1 := ⟨_, rfl⟩
      have hw := hw x5_72 ex5_72
      refine lv_iinc (v := x5_72) (lv' := [(5, .int x5_72), (4, .ref r_67), (0, .ref x0), (1, .int x1), (2, .ref x2), (3, .int x3)]) hx hb dX4_rowTimesColumn_72 hl (k := 5) rfl (by rw [ex5_72]; rfl) (by decide) rfl (fun ls hl => ?_)
      refine lv_goto (tgt := 25) hx hb dX4_rowTimesColumn_75 (by decide) ?_
      exact ih _ _ _ _ _ _ _ _ _ _ _ _ _ _ hw hI (by omega) (by omega) (lv_sub hl [2, 3, 4, 5, 1, 0] rfl)
set_option maxHeartbeats 4000000 in
set_option maxRecDepth 100000 in
theorem m_X4_rowTimesColumn (l : Launch) (G : xG) (h0 : xH) (mc ms : Nat) (x0 : Nat) (x1 : Int32) (x2 : Nat) (x3 : Int32) (post : Nat → xH → Prop) (hw : wp_X4_rowTimesColumn h0 mc ms x0 x1 x2 x3 post) (sz : Nat) : Met l yX4_rowTimesColumn (wu yX4_rowTimesColumn cX4_rowTimesColumn 6 (some (.object "ExactFilter$Whole"))) (rX4_rowTimesColumn mc ms) (x_Pc G [.ref x0, .int x1, .ref x2, .int x3] h0 sz) (x_Qr G h0 sz post) mc ms (x_A h0 sz) := by
  refine Met.ofW (cc := cX4_rowTimesColumn) (maxL := 6) (ret := (some (.object "ExactFilter$Whole"))) (by decide) rfl ?_
  intro p e s m args below meth c s₁ B hml hv
  obtain ⟨rfl, hsz, hR, hK⟩ := hv
  subst hsz
  have C : CX p s m _ meth c G RX4 cX4_rowTimesColumn 6 (some (.object "ExactFilter$Whole")) := ⟨B.exec, B.bytes, B.returns, hml, findClass_of_methodNamed B.named, x_hg (atoms_spec (ws := wu yX4_rowTimesColumn cX4_rowTimesColumn 6 (some (.object "ExactFilter$Whole"))) B.pre), B.notSynchronized, hK⟩
  obtain ⟨hx, hb, hr, hml, hown, hg, hlocks, hK⟩ := id C
  have hI : x_I G (x_A h0 s.heap.size) s.heap h0 s.heap [] := x_I.start hR
  have hkc : 0 + mc ≤ mc := by omega
  have hks : 0 + ms ≤ ms := by omega
  have hl := lv_entry ([.ref x0, .int x1, .ref x2, .int x3]) (n := 6) (Nat.le_of_ble_eq_true rfl)
  rw [lg_entry_eq]
  generalize (lg_sl ([.ref x0, .int x1, .ref x2, .int x3]) ++ List.replicate (6 - (lg_sl ([.ref x0, .int x1, .ref x2, .int x3])).length) Slot.unset).toArray = ls at hl ⊢
  have hl : lv_has ls 6 [(0, .ref x0), (1, .int x1), (2, .ref x2), (3, .int x3)] := hl
  unfold wp_X4_rowTimesColumn at hw
  refine lv_aload_n hx hb dX4_rowTimesColumn_0 rfl (lv_at hl 0 rfl) ?_
  obtain ⟨fs_1, he_1, hw⟩ := hw
  obtain ⟨v_1, hv_1, hw⟩ := hw
  refine x_get (ci := 4) (C := RX4) (T := TX4) (N := 5) hx hb hg ku_X4 hown hK hI he_1 rfl 2 (by decide) (hg _ kf_X4_16) (fun _ h9 => h9) hv_1 dX4_rowTimesColumn_1 ?_
  refine lv_iload_n hx hb dX4_rowTimesColumn_4 rfl (lv_at hl 1 rfl) ?_
  refine lv_aload_n hx hb dX4_rowTimesColumn_5 rfl (lv_at hl 0 rfl) ?_
  obtain ⟨v_6, hv_6, hw⟩ := hw
  refine x_get (ci := 4) (C := RX4) (T := TX4) (N := 5) hx hb hg ku_X4 hown hK hI he_1 rfl 1 (by decide) (hg _ kf_X4_13) (fun _ h9 => h9) hv_6 dX4_rowTimesColumn_6 ?_
  refine lv_imul hx hb dX4_rowTimesColumn_9 ?_
  obtain ⟨n_10, f_10, he_10, hw⟩ := hw
  obtain ⟨hi10, hw⟩ := hw
  refine x_aald hx hb hK hI he_10 rfl hi10 dX4_rowTimesColumn_10 ?_
  obtain ⟨y_10, ho10, hw⟩ := hw
  rw [ho10]
  refine W.eq (g2 := F0 m 11 ls (.ref y_10 :: [])) rfl ?_
  refine lv_aload_n hx hb dX4_rowTimesColumn_11 rfl (lv_at hl 2 rfl) ?_
  obtain ⟨fs_12, he_12, hw⟩ := hw
  obtain ⟨v_12, hv_12, hw⟩ := hw
  refine x_get (ci := 4) (C := RX4) (T := TX4) (N := 5) hx hb hg ku_X4 hown hK hI he_12 rfl 2 (by decide) (hg _ kf_X4_16) (fun _ h9 => h9) hv_12 dX4_rowTimesColumn_12 ?_
  refine lv_iload_n hx hb dX4_rowTimesColumn_15 rfl (lv_at hl 3 rfl) ?_
  obtain ⟨n_16, f_16, he_16, hw⟩ := hw
  obtain ⟨hi16, hw⟩ := hw
  refine x_aald hx hb hK hI he_16 rfl hi16 dX4_rowTimesColumn_16 ?_
  obtain ⟨y_16, ho16, hw⟩ := hw
  rw [ho16]
  refine W.eq (g2 := F0 m 17 ls (.ref y_16 :: .ref y_10 :: [])) rfl ?_
  obtain ⟨fs_17, he_17, hw⟩ := hw
  obtain ⟨mc_17, ms_17, hkc1, hks1, hw⟩ := hw
  refine x_cr (va_runV (As := [.ref y_16]) (rest := []) ⟨hx, hb, hml, hown, hg⟩ (m_X5_times l G h0 mc_17 ms_17 y_10 y_16 _ hw s.heap.size) (cwV 1 hg (x_gV km_X4_50 ki_X5_times kz_X5_X5_times kn_X5 kk_X5_times) rfl rfl rfl (by decide +kernel) ⟨Nat.le_of_ble_eq_true rfl, Nat.le_of_ble_eq_true rfl⟩) ⟨x_blind, x_recv hI hK he_17 rfl rfl, x_pre hI hK⟩ rfl rfl hl.1 rfl (lv_room (Nat.le_of_ble_eq_true rfl)) dX4_rowTimesColumn_17 ⟨show 0 + mc_17 ≤ mc by omega, show 0 + ms_17 ≤ ms by omega⟩) hI (fun r_17 h_17 H locs hw hI => ?_)
  refine lv_astore (lv' := [(4, .ref r_17), (0, .ref x0), (1, .int x1), (2, .ref x2), (3, .int x3)]) hx hb dX4_rowTimesColumn_20 hl (by decide) rfl (fun ls hl => ?_)
  refine lv_iconst (v := 1) hx hb dX4_rowTimesColumn_22 (by decide) ?_
  refine lv_istore (lv' := [(5, .int 1), (4, .ref r_17), (0, .ref x0), (1, .int x1), (2, .ref x2), (3, .int x3)]) hx hb dX4_rowTimesColumn_23 hl (by decide) rfl (fun ls hl => ?_)
  obtain ⟨n25, hw⟩ := hw
  refine ml_X4_rowTimesColumn_25 C h0 mc ms post _ ?_ n25 _ _ _ _ _ _ _ _ _ _ _ _ _ _ hw hI (by omega) (by omega) (lv_sub hl [2, 3, 4, 5, 1, 0] rfl)
  · intro h kc ks x4 H locs ls nc ns hw hI hkc hks hl
    refine lv_aload hx hb dX4_rowTimesColumn_78 (lv_at hl 0 rfl) ?_
    exact x_aret hx hb hr (by first | exact Or.inl ⟨_, rfl⟩ | exact Or.inr ⟨_, rfl⟩) hlocks hI hw (by omega) (by omega) dX4_rowTimesColumn_80
-- ===== ExactFilter$Table.times
abbrev rX4_times (mc ms : Nat) : Room := { frames := 4, cells := mc, slots := ms, locals := 98 }
def wl_X4_times_26  (post : Nat → xH → Prop) (K60 : xH → Nat → Nat → Nat → Nat → Nat → Int32 → Prop) : Nat → xH → Nat → Nat → Nat → Nat → Nat → Int32 → Int32 → Prop
  | 0, _, _, _, _, _, _, _, _ => False
  | n + 1, h, kc, ks, x0, x1, x2, x3, x4 => ∃ fs_29 : List Value, h x1 = some (.inr (4, fs_29)) ∧ ∃ v_29 : Int32, fs_29[1]? = some (.int v_29) ∧ (v_29 ≤ x4 → K60 h kc ks x0 x1 x2 x3) ∧ (¬ v_29 ≤ x4 → ∃ fs_50 : List Value, h x0 = some (.inr (4, fs_50)) ∧ ∃ mc_50 ms_50 : Nat, mc_50 ≤ kc ∧ ms_50 ≤ ks ∧ wp_X4_rowTimesColumn h mc_50 ms_50 x0 x3 x1 x4 (fun (r_50 : Nat) (h_50 : xH) => ∃ (n_53 : Nat) (f_53 : Nat → Option Nat), h_50 x2 = some (.inl (2, n_53, .inr (.inr (.inr (.inr f_53))))) ∧ vp_in ((x3 * v_29) + x4) n_53 ∧ ∃ vs_53 : List Value, h_50 r_50 = some (.inr (5, vs_53)) ∧ ∀ h_53 : xH, h_53 = x_up h_50 x2 (.inl (2, n_53, .inr (.inr (.inr (.inr (va_up f_53 (((x3 * v_29) + x4) : Int32).toNatClampNeg (some r_50))))))) → ∀ (x4_54 : Int32), x4_54 = x4 + 1 → wl_X4_times_26  post K60 n h_53 (kc - mc_50) (ks - ms_50) x0 x1 x2 x3 x4_54))
def wl_X4_times_15  (post : Nat → xH → Prop) (K66 : xH → Nat → Nat → Nat → Nat → Nat → Prop) : Nat → xH → Nat → Nat → Nat → Nat → Nat → Int32 → Prop
  | 0, _, _, _, _, _, _, _ => False
  | n + 1, h, kc, ks, x0, x1, x2, x3 => ∃ fs_17 : List Value, h x0 = some (.inr (4, fs_17)) ∧ ∃ v_17 : Int32, fs_17[0]? = some (.int v_17) ∧ (v_17 ≤ x3 → K66 h kc ks x0 x1 x2) ∧ (¬ v_17 ≤ x3 → ∃ n26 : Nat, wl_X4_times_26  post (fun (h : xH) (kc : Nat) (ks : Nat) (x0 : Nat) (x1 : Nat) (x2 : Nat) (x3 : Int32) => ∀ (x3_60 : Int32), x3_60 = x3 + 1 → wl_X4_times_15  post K66 n h kc ks x0 x1 x2 x3_60) n26 h kc ks x0 x1 x2 x3 0)
def wp_X4_times (h0 : xH) (mc ms : Nat) (x0 : Nat) (x1 : Nat) (post : Nat → xH → Prop) : Prop := ∃ fs_1 : List Value, h0 x0 = some (.inr (4, fs_1)) ∧ ∃ v_1 : Int32, fs_1[0]? = some (.int v_1) ∧ ∃ fs_5 : List Value, h0 x1 = some (.inr (4, fs_5)) ∧ ∃ v_5 : Int32, fs_5[1]? = some (.int v_5) ∧ ¬ ((v_1 * v_5) : Int32) < 0 ∧ ∀ z_9 : Nat, ((v_1 * v_5) : Int32).toNatClampNeg = z_9 → z_9 ≤ 60000000 ∧ 1 ≤ mc ∧ z_9 ≤ ms ∧ ∀ q_9 : Nat, x_fresh h0 q_9 → ∀ h_9 : xH, h_9 = x_up h0 q_9 (.inl (2, z_9, .inr (.inr (.inr (.inr (fun _ => none)))))) → ∃ n15 : Nat, wl_X4_times_15  post (fun (h : xH) (kc : Nat) (ks : Nat) (x0 : Nat) (x1 : Nat) (x2 : Nat) => 1 ≤ kc ∧ 5 ≤ ks ∧ ∀ q_66 : Nat, x_fresh h q_66 → ∀ h_66 : xH, h_66 = x_up h q_66 (.inr (4, [.int 0, .int 0, .null, .null, .null])) → ∃ fs_71 : List Value, h_66 x0 = some (.inr (4, fs_71)) ∧ ∃ v_71 : Int32, fs_71[0]? = some (.int v_71) ∧ ∃ fs_75 : List Value, h_66 x1 = some (.inr (4, fs_75)) ∧ ∃ v_75 : Int32, fs_75[1]? = some (.int v_75) ∧ ∃ v_80 : Nat, fs_71[3]? = some (.ref v_80) ∧ ∃ v_84 : Nat, fs_75[3]? = some (.ref v_84) ∧ ∃ fs_87 : List Value, h_66 v_80 = some (.inr (5, fs_87)) ∧ ∃ mc_87 ms_87 : Nat, mc_87 ≤ (kc - 1) ∧ ms_87 ≤ (ks - 5) ∧ wp_X5_times h_66 mc_87 ms_87 v_80 v_84 (fun (r_87 : Nat) (h_87 : xH) => ∃ mc_90 ms_90 : Nat, mc_90 ≤ ((kc - 1) - mc_87) ∧ ms_90 ≤ ((ks - 5) - ms_87) ∧ wp_X4_init h_87 mc_90 ms_90 q_66 v_71 v_75 x2 r_87 (fun (h_90 : xH) => post q_66 h_90))) n15 h_9 (mc - 1) (ms - z_9) x0 x1 q_9 0
set_option maxHeartbeats 4000000 in
set_option maxRecDepth 100000 in
theorem ml_X4_times_26 (C : CX p s m args meth c G RX4 cX4_times 5 (some (.object "ExactFilter$Table"))) (h0 : xH) (mc ms : Nat) (post : Nat → xH → Prop) (K60 : xH → Nat → Nat → Nat → Nat → Nat → Int32 → Prop)
    (hK60 : (∀ (h : xH) (kc : Nat) (ks : Nat) (x0 : Nat) (x1 : Nat) (x2 : Nat) (x3 : Int32) (H : Heap) (locs : List Loc) (ls : Array Slot) (nc ns : Nat), K60 h kc ks x0 x1 x2 x3 → x_I G (x_A h0 s.heap.size) s.heap h H locs → nc + kc ≤ mc → ns + ks ≤ ms → lv_has ls 5 [(0, .ref x0), (1, .ref x1), (2, .ref x2), (3, .int x3)] → W p l e (rX4_times mc ms) s m args below meth c H locs nc ns (MQ below (x_Qr G h0 s.heap.size post) args s mc ms (x_A h0 s.heap.size)) (F0 m 60 ls []))) :
    ∀ (n : Nat) (h : xH) (kc : Nat) (ks : Nat) (x0 : Nat) (x1 : Nat) (x2 : Nat) (x3 : Int32) (x4 : Int32) (H : Heap) (locs : List Loc) (ls : Array Slot) (nc ns : Nat), wl_X4_times_26  post K60 n h kc ks x0 x1 x2 x3 x4 → x_I G (x_A h0 s.heap.size) s.heap h H locs → nc + kc ≤ mc → ns + ks ≤ ms → lv_has ls 5 [(0, .ref x0), (1, .ref x1), (2, .ref x2), (3, .int x3), (4, .int x4)] → W p l e (rX4_times mc ms) s m args below meth c H locs nc ns (MQ below (x_Qr G h0 s.heap.size post) args s mc ms (x_A h0 s.heap.size)) (F0 m 26 ls []) := by
  obtain ⟨hx, hb, hr, hml, hown, hg, hlocks, hK⟩ := id C
  intro n
  induction n with
  | zero => intro h kc ks x0 x1 x2 x3 x4 H locs ls nc ns hw; exact absurd hw id
  | succ n ih =>
    intro h kc ks x0 x1 x2 x3 x4 H locs ls nc ns hw hI hkc hks hl
    refine lv_iload hx hb dX4_times_26 (lv_at hl 4 rfl) ?_
    refine lv_aload_n hx hb dX4_times_28 rfl (lv_at hl 1 rfl) ?_
    obtain ⟨fs_29, he_29, hw⟩ := hw
    obtain ⟨v_29, hv_29, hw⟩ := hw
    refine x_get (ci := 4) (C := RX4) (T := TX4) (N := 5) hx hb hg ku_X4 hown hK hI he_29 rfl 1 (by decide) (hg _ kf_X4_13) (fun _ h9 => h9) hv_29 dX4_times_29 ?_
    refine lv_icmp_ge (tgt := 60) hx hb dX4_times_32 (by decide) (fun hc32 => ?_) (fun hc32 => ?_)
    · have hw := hw.1 hc32
      exact hK60 _ _ _ _ _ _ _ _ _ _ _ _ hw hI (by omega) (by omega) (lv_sub hl [0, 1, 2, 3] rfl)
    · have hw := hw.2 hc32
      refine lv_aload_n hx hb dX4_times_35 rfl (lv_at hl 2 rfl) ?_
      refine lv_iload_n hx hb dX4_times_36 rfl (lv_at hl 3 rfl) ?_
      refine lv_aload_n hx hb dX4_times_37 rfl (lv_at hl 1 rfl) ?_
      refine x_get (ci := 4) (C := RX4) (T := TX4) (N := 5) hx hb hg ku_X4 hown hK hI he_29 rfl 1 (by decide) (hg _ kf_X4_13) (fun _ h9 => h9) hv_29 dX4_times_38 ?_
      refine lv_imul hx hb dX4_times_41 ?_
      refine lv_iload hx hb dX4_times_42 (lv_at hl 4 rfl) ?_
      refine lv_iadd hx hb dX4_times_44 ?_
      refine lv_aload_n hx hb dX4_times_45 rfl (lv_at hl 0 rfl) ?_
      refine lv_iload_n hx hb dX4_times_46 rfl (lv_at hl 3 rfl) ?_
      refine lv_aload_n hx hb dX4_times_47 rfl (lv_at hl 1 rfl) ?_
      refine lv_iload hx hb dX4_times_48 (lv_at hl 4 rfl) ?_
      obtain ⟨fs_50, he_50, hw⟩ := hw
      obtain ⟨mc_50, ms_50, hkc1, hks1, hw⟩ := hw
      refine x_cr (va_runV (As := [.int x3, .ref x1, .int x4]) (rest := [.int ((x3 * v_29) + x4), .ref x2]) ⟨hx, hb, hml, hown, hg⟩ (m_X4_rowTimesColumn l G h mc_50 ms_50 x0 x3 x1 x4 _ hw H.size) (cwV 3 hg (x_gV km_X4_46 ki_X4_rowTimesColumn kz_X4_X4_rowTimesColumn kn_X4 kk_X4_rowTimesColumn) rfl rfl rfl (by decide +kernel) ⟨Nat.le_of_ble_eq_true rfl, Nat.le_of_ble_eq_true rfl⟩) ⟨x_blind, x_recv hI hK he_50 rfl rfl, x_pre hI hK⟩ rfl rfl hl.1 rfl (lv_room (Nat.le_of_ble_eq_true rfl)) dX4_times_50 ⟨show nc + mc_50 ≤ mc by omega, show ns + ms_50 ≤ ms by omega⟩) hI (fun r_50 h_50 H locs hw hI => ?_)
      obtain ⟨n_53, f_53, he_53, hw⟩ := hw
      obtain ⟨hi53, hw⟩ := hw
      obtain ⟨vs_53, hvs_53, hw⟩ := hw
      refine x_aast (r := (RX5, TX5, 3)) hx hb hK hI he_53 rfl hvs_53 rfl hi53 dX4_times_53 (fun H locs hI => ?_)
      obtain ⟨h_53, eh_53⟩ : ∃ z : xH, z = x_up h_50 x2 (.inl (2, n_53, .inr (.inr (.inr (.inr (va_up f_53 (((x3 * v_29) + x4) : Int32).toNatClampNeg (some r_50))))))) := ⟨_, rfl⟩
      rw [← eh_53] at hI
      have hw := hw h_53 eh_53
      have heh_53 : h_53 x2 = some (.inl (2, n_53, .inr (.inr (.inr (.inr (va_up f_53 (((x3 * v_29) + x4) : Int32).toNatClampNeg (some r_50))))))) := by rw [eh_53]; exact x_up_s
      obtain ⟨x4_54, ex4_54⟩ : ∃ y : Int32, y = x4 + 1 := ⟨_, rfl⟩
      have hw := hw x4_54 ex4_54
      refine lv_iinc (v := x4_54) (lv' := [(4, .int x4_54), (0, .ref x0), (1, .ref x1), (2, .ref x2), (3, .int x3)]) hx hb dX4_times_54 hl (k := 4) rfl (by rw [ex4_54]; rfl) (by decide) rfl (fun ls hl => ?_)
      refine lv_goto (tgt := 26) hx hb dX4_times_57 (by decide) ?_
      exact ih _ _ _ _ _ _ _ _ _ _ _ _ _ hw hI (by omega) (by omega) (lv_sub hl [1, 2, 3, 4, 0] rfl)
set_option maxHeartbeats 4000000 in
set_option maxRecDepth 100000 in
theorem ml_X4_times_15 (C : CX p s m args meth c G RX4 cX4_times 5 (some (.object "ExactFilter$Table"))) (h0 : xH) (mc ms : Nat) (post : Nat → xH → Prop) (K66 : xH → Nat → Nat → Nat → Nat → Nat → Prop)
    (hK66 : (∀ (h : xH) (kc : Nat) (ks : Nat) (x0 : Nat) (x1 : Nat) (x2 : Nat) (H : Heap) (locs : List Loc) (ls : Array Slot) (nc ns : Nat), K66 h kc ks x0 x1 x2 → x_I G (x_A h0 s.heap.size) s.heap h H locs → nc + kc ≤ mc → ns + ks ≤ ms → lv_has ls 5 [(0, .ref x0), (1, .ref x1), (2, .ref x2)] → W p l e (rX4_times mc ms) s m args below meth c H locs nc ns (MQ below (x_Qr G h0 s.heap.size post) args s mc ms (x_A h0 s.heap.size)) (F0 m 66 ls []))) :
    ∀ (n : Nat) (h : xH) (kc : Nat) (ks : Nat) (x0 : Nat) (x1 : Nat) (x2 : Nat) (x3 : Int32) (H : Heap) (locs : List Loc) (ls : Array Slot) (nc ns : Nat), wl_X4_times_15  post K66 n h kc ks x0 x1 x2 x3 → x_I G (x_A h0 s.heap.size) s.heap h H locs → nc + kc ≤ mc → ns + ks ≤ ms → lv_has ls 5 [(0, .ref x0), (1, .ref x1), (2, .ref x2), (3, .int x3)] → W p l e (rX4_times mc ms) s m args below meth c H locs nc ns (MQ below (x_Qr G h0 s.heap.size post) args s mc ms (x_A h0 s.heap.size)) (F0 m 15 ls []) := by
  obtain ⟨hx, hb, hr, hml, hown, hg, hlocks, hK⟩ := id C
  intro n
  induction n with
  | zero => intro h kc ks x0 x1 x2 x3 H locs ls nc ns hw; exact absurd hw id
  | succ n ih =>
    intro h kc ks x0 x1 x2 x3 H locs ls nc ns hw hI hkc hks hl
    refine lv_iload_n hx hb dX4_times_15 rfl (lv_at hl 3 rfl) ?_
    refine lv_aload_n hx hb dX4_times_16 rfl (lv_at hl 0 rfl) ?_
    obtain ⟨fs_17, he_17, hw⟩ := hw
    obtain ⟨v_17, hv_17, hw⟩ := hw
    refine x_get (ci := 4) (C := RX4) (T := TX4) (N := 5) hx hb hg ku_X4 hown hK hI he_17 rfl 0 (by decide) (hg _ kf_X4_7) (fun _ h9 => h9) hv_17 dX4_times_17 ?_
    refine lv_icmp_ge (tgt := 66) hx hb dX4_times_20 (by decide) (fun hc20 => ?_) (fun hc20 => ?_)
    · have hw := hw.1 hc20
      exact hK66 _ _ _ _ _ _ _ _ _ _ _ hw hI (by omega) (by omega) (lv_sub hl [0, 1, 2] rfl)
    · have hw := hw.2 hc20
      refine lv_iconst (v := 0) hx hb dX4_times_23 (by decide) ?_
      refine lv_istore (lv' := [(4, .int 0), (0, .ref x0), (1, .ref x1), (2, .ref x2), (3, .int x3)]) hx hb dX4_times_24 hl (by decide) rfl (fun ls hl => ?_)
      obtain ⟨n26, hw⟩ := hw
      refine ml_X4_times_26 C h0 mc ms post _ ?_ n26 _ _ _ _ _ _ _ _ _ _ _ _ _ hw hI (by omega) (by omega) (lv_sub hl [1, 2, 3, 4, 0] rfl)
      · intro h kc ks x0 x1 x2 x3 H locs ls nc ns hw hI hkc hks hl
        obtain ⟨x3_60, ex3_60⟩ : ∃ y : Int32, y = x3 + 1 := ⟨_, rfl⟩
        have hw := hw x3_60 ex3_60
        refine lv_iinc (v := x3_60) (lv' := [(3, .int x3_60), (0, .ref x0), (1, .ref x1), (2, .ref x2)]) hx hb dX4_times_60 hl (k := 3) rfl (by rw [ex3_60]; rfl) (by decide) rfl (fun ls hl => ?_)
        refine lv_goto (tgt := 15) hx hb dX4_times_63 (by decide) ?_
        exact ih _ _ _ _ _ _ _ _ _ _ _ _ hw hI (by omega) (by omega) (lv_sub hl [1, 2, 3, 0] rfl)
set_option maxHeartbeats 4000000 in
set_option maxRecDepth 100000 in
theorem m_X4_times (l : Launch) (G : xG) (h0 : xH) (mc ms : Nat) (x0 : Nat) (x1 : Nat) (post : Nat → xH → Prop) (hw : wp_X4_times h0 mc ms x0 x1 post) (sz : Nat) : Met l yX4_times (wu yX4_times cX4_times 5 (some (.object "ExactFilter$Table"))) (rX4_times mc ms) (x_Pc G [.ref x0, .ref x1] h0 sz) (x_Qr G h0 sz post) mc ms (x_A h0 sz) := by
  refine Met.ofW (cc := cX4_times) (maxL := 5) (ret := (some (.object "ExactFilter$Table"))) (by decide) rfl ?_
  intro p e s m args below meth c s₁ B hml hv
  obtain ⟨rfl, hsz, hR, hK⟩ := hv
  subst hsz
  have C : CX p s m _ meth c G RX4 cX4_times 5 (some (.object "ExactFilter$Table")) := ⟨B.exec, B.bytes, B.returns, hml, findClass_of_methodNamed B.named, x_hg (atoms_spec (ws := wu yX4_times cX4_times 5 (some (.object "ExactFilter$Table"))) B.pre), B.notSynchronized, hK⟩
  obtain ⟨hx, hb, hr, hml, hown, hg, hlocks, hK⟩ := id C
  have hI : x_I G (x_A h0 s.heap.size) s.heap h0 s.heap [] := x_I.start hR
  have hkc : 0 + mc ≤ mc := by omega
  have hks : 0 + ms ≤ ms := by omega
  have hl := lv_entry ([.ref x0, .ref x1]) (n := 5) (Nat.le_of_ble_eq_true rfl)
  rw [lg_entry_eq]
  generalize (lg_sl ([.ref x0, .ref x1]) ++ List.replicate (5 - (lg_sl ([.ref x0, .ref x1])).length) Slot.unset).toArray = ls at hl ⊢
  have hl : lv_has ls 5 [(0, .ref x0), (1, .ref x1)] := hl
  unfold wp_X4_times at hw
  refine lv_aload_n hx hb dX4_times_0 rfl (lv_at hl 0 rfl) ?_
  obtain ⟨fs_1, he_1, hw⟩ := hw
  obtain ⟨v_1, hv_1, hw⟩ := hw
  refine x_get (ci := 4) (C := RX4) (T := TX4) (N := 5) hx hb hg ku_X4 hown hK hI he_1 rfl 0 (by decide) (hg _ kf_X4_7) (fun _ h9 => h9) hv_1 dX4_times_1 ?_
  refine lv_aload_n hx hb dX4_times_4 rfl (lv_at hl 1 rfl) ?_
  obtain ⟨fs_5, he_5, hw⟩ := hw
  obtain ⟨v_5, hv_5, hw⟩ := hw
  refine x_get (ci := 4) (C := RX4) (T := TX4) (N := 5) hx hb hg ku_X4 hown hK hI he_5 rfl 1 (by decide) (hg _ kf_X4_13) (fun _ h9 => h9) hv_5 dX4_times_5 ?_
  refine lv_imul hx hb dX4_times_8 ?_
  obtain ⟨hneg9, hw⟩ := hw
  obtain ⟨z_9, hz9⟩ : ∃ z : Nat, ((v_1 * v_5) : Int32).toNatClampNeg = z := ⟨_, rfl⟩
  obtain ⟨hz29, hkc1, hks1, hw⟩ := hw z_9 hz9
  refine x_newq (t0 := 2) hx hb hown (hg _ kl_X4_30) hK.2.1 hK hI rfl hneg9 hz9 (by omega) (show 0 + 1 ≤ mc by omega) (show 0 + z_9 ≤ ms by omega) dX4_times_9 (fun q_9 H hfr9 hI => ?_)
  have hw := hw q_9 hfr9
  obtain ⟨h_9, eh_9⟩ : ∃ z : xH, z = x_up h0 q_9 (.inl (2, z_9, .inr (.inr (.inr (.inr (fun _ => none)))))) := ⟨_, rfl⟩
  rw [← eh_9] at hI
  have hw := hw h_9 eh_9
  have heh_9 : h_9 q_9 = some (.inl (2, z_9, .inr (.inr (.inr (.inr (fun _ => none)))))) := by rw [eh_9]; exact x_up_s
  refine lv_astore_n (lv' := [(2, .ref q_9), (0, .ref x0), (1, .ref x1)]) hx hb dX4_times_12 rfl hl (by decide) rfl (fun ls hl => ?_)
  refine lv_iconst (v := 0) hx hb dX4_times_13 (by decide) ?_
  refine lv_istore_n (lv' := [(3, .int 0), (2, .ref q_9), (0, .ref x0), (1, .ref x1)]) hx hb dX4_times_14 rfl hl (by decide) rfl (fun ls hl => ?_)
  obtain ⟨n15, hw⟩ := hw
  refine ml_X4_times_15 C h0 mc ms post _ ?_ n15 _ _ _ _ _ _ _ _ _ _ _ _ hw hI (by omega) (by omega) (lv_sub hl [2, 3, 1, 0] rfl)
  · intro h kc ks x0 x1 x2 H locs ls nc ns hw hI hkc hks hl
    obtain ⟨hkc1, hks1, hw⟩ := hw
    refine x_new (ci := 4) (fs := [.int 0, .int 0, .null, .null, .null]) (C := RX4) (T := TX4) (N := 5) hx hb hg ku_X4 tyX4 tyX4_ok hown (hg _ kl_X4_8) (hg _ kt_X4) (hg _ kn_X4) hK hI rfl (by decide +kernel) (show nc + 1 ≤ mc by omega) (show ns + 5 ≤ ms by omega) dX4_times_66 (fun q_66 H hfr66 hI => ?_)
    have hw := hw q_66 hfr66
    obtain ⟨h_66, eh_66⟩ : ∃ z : xH, z = x_up h q_66 (.inr (4, [.int 0, .int 0, .null, .null, .null])) := ⟨_, rfl⟩
    rw [← eh_66] at hI
    have hw := hw h_66 eh_66
    have heh_66 : h_66 q_66 = some (.inr (4, [.int 0, .int 0, .null, .null, .null])) := by rw [eh_66]; exact x_up_s
    refine lv_dup hx hb dX4_times_69 rfl ?_
    refine lv_aload_n hx hb dX4_times_70 rfl (lv_at hl 0 rfl) ?_
    obtain ⟨fs_71, he_71, hw⟩ := hw
    obtain ⟨v_71, hv_71, hw⟩ := hw
    refine x_get (ci := 4) (C := RX4) (T := TX4) (N := 5) hx hb hg ku_X4 hown hK hI he_71 rfl 0 (by decide) (hg _ kf_X4_7) (fun _ h9 => h9) hv_71 dX4_times_71 ?_
    refine lv_aload_n hx hb dX4_times_74 rfl (lv_at hl 1 rfl) ?_
    obtain ⟨fs_75, he_75, hw⟩ := hw
    obtain ⟨v_75, hv_75, hw⟩ := hw
    refine x_get (ci := 4) (C := RX4) (T := TX4) (N := 5) hx hb hg ku_X4 hown hK hI he_75 rfl 1 (by decide) (hg _ kf_X4_13) (fun _ h9 => h9) hv_75 dX4_times_75 ?_
    refine lv_aload_n hx hb dX4_times_78 rfl (lv_at hl 2 rfl) ?_
    refine lv_aload_n hx hb dX4_times_79 rfl (lv_at hl 0 rfl) ?_
    obtain ⟨v_80, hv_80, hw⟩ := hw
    refine x_get (ci := 4) (C := RX4) (T := TX4) (N := 5) hx hb hg ku_X4 hown hK hI he_71 rfl 3 (by decide) (hg _ kf_X4_20) (fun _ h9 => h9) hv_80 dX4_times_80 ?_
    refine lv_aload_n hx hb dX4_times_83 rfl (lv_at hl 1 rfl) ?_
    obtain ⟨v_84, hv_84, hw⟩ := hw
    refine x_get (ci := 4) (C := RX4) (T := TX4) (N := 5) hx hb hg ku_X4 hown hK hI he_75 rfl 3 (by decide) (hg _ kf_X4_20) (fun _ h9 => h9) hv_84 dX4_times_84 ?_
    obtain ⟨fs_87, he_87, hw⟩ := hw
    obtain ⟨mc_87, ms_87, hkc1, hks1, hw⟩ := hw
    refine x_cr (va_runV (As := [.ref v_84]) (rest := [.ref x2, .int v_75, .int v_71, .ref q_66, .ref q_66]) ⟨hx, hb, hml, hown, hg⟩ (m_X5_times l G h_66 mc_87 ms_87 v_80 v_84 _ hw H.size) (cwV 1 hg (x_gV km_X4_50 ki_X5_times kz_X5_X5_times kn_X5 kk_X5_times) rfl rfl rfl (by decide +kernel) ⟨Nat.le_of_ble_eq_true rfl, Nat.le_of_ble_eq_true rfl⟩) ⟨x_blind, x_recv hI hK he_87 rfl rfl, x_pre hI hK⟩ rfl rfl hl.1 rfl (lv_room (Nat.le_of_ble_eq_true rfl)) dX4_times_87 ⟨show nc + 1 + mc_87 ≤ mc by omega, show ns + 5 + ms_87 ≤ ms by omega⟩) hI (fun r_87 h_87 H locs hw hI => ?_)
    obtain ⟨mc_90, ms_90, hkc1, hks1, hw⟩ := hw
    refine x_cv (va_runI (As := [.int v_71, .int v_75, .ref x2, .ref r_87]) (rest := [.ref q_66]) ⟨hx, hb, hml, hown, hg⟩ (m_X4_init l G h_87 mc_90 ms_90 q_66 v_71 v_75 x2 r_87 _ hw H.size) (cwI 4 hg (x_gI kk_X4_init) rfl rfl rfl (hg _ kn_X4) (hg _ km_X4_36) (hg _ ki_X4_init) rfl (by decide +kernel) ⟨Nat.le_of_ble_eq_true rfl, Nat.le_of_ble_eq_true rfl⟩) ⟨x_blind, x_pre hI hK⟩ rfl rfl hl.1 rfl (lv_room (Nat.le_of_ble_eq_true rfl)) dX4_times_90 ⟨show nc + 1 + mc_87 + mc_90 ≤ mc by omega, show ns + 5 + ms_87 + ms_90 ≤ ms by omega⟩) hI (fun h_90 H locs hw hI => ?_)
    exact x_aret hx hb hr (by first | exact Or.inl ⟨_, rfl⟩ | exact Or.inr ⟨_, rfl⟩) hlocks hI hw (by omega) (by omega) dX4_times_93
-- ===== ExactFilter$Table.plus
abbrev rX4_plus (mc ms : Nat) : Room := { frames := 6, cells := mc, slots := ms, locals := 149 }
def wl_X4_plus_44  (post : Nat → xH → Prop) (K91 : xH → Nat → Nat → Nat → Nat → Nat → Prop) : Nat → xH → Nat → Nat → Nat → Nat → Nat → Nat → Nat → Int32 → Prop
  | 0, _, _, _, _, _, _, _, _, _ => False
  | n + 1, h, kc, ks, x0, x1, x3, x4, x5, x6 => ∃ fs_47 : List Value, h x0 = some (.inr (4, fs_47)) ∧ ∃ v_47 : Nat, fs_47[2]? = some (.ref v_47) ∧ ∃ (n_50 : Nat) (f_50 : Nat → Option Nat), h v_47 = some (.inl (2, n_50, .inr (.inr (.inr (.inr f_50))))) ∧ ((nI n_50) ≤ x6 → K91 h kc ks x0 x3 x5) ∧ (¬ (nI n_50) ≤ x6 → vp_in x6 n_50 ∧ ∃ y_64 : Nat, (f_50 (x6 : Int32).toNatClampNeg) = some y_64 ∧ ∃ fs_66 : List Value, h y_64 = some (.inr (5, fs_66)) ∧ ∃ mc_66 ms_66 : Nat, mc_66 ≤ kc ∧ ms_66 ≤ ks ∧ wp_X5_times h mc_66 ms_66 y_64 x3 (fun (r_66 : Nat) (h_66 : xH) => ∃ fs_70 : List Value, h_66 x1 = some (.inr (4, fs_70)) ∧ ∃ v_70 : Nat, fs_70[2]? = some (.ref v_70) ∧ ∃ (n_75 : Nat) (f_75 : Nat → Option Nat), h_66 v_70 = some (.inl (2, n_75, .inr (.inr (.inr (.inr f_75))))) ∧ vp_in x6 n_75 ∧ ∃ y_75 : Nat, (f_75 (x6 : Int32).toNatClampNeg) = some y_75 ∧ ∃ fs_78 : List Value, h_66 y_75 = some (.inr (5, fs_78)) ∧ ∃ mc_78 ms_78 : Nat, mc_78 ≤ (kc - mc_66) ∧ ms_78 ≤ (ks - ms_66) ∧ wp_X5_times h_66 mc_78 ms_78 y_75 x4 (fun (r_78 : Nat) (h_78 : xH) => ∃ fs_81 : List Value, h_78 r_66 = some (.inr (5, fs_81)) ∧ ∃ mc_81 ms_81 : Nat, mc_81 ≤ ((kc - mc_66) - mc_78) ∧ ms_81 ≤ ((ks - ms_66) - ms_78) ∧ wp_X5_plus h_78 mc_81 ms_81 r_66 r_78 (fun (r_81 : Nat) (h_81 : xH) => ∃ (n_84 : Nat) (f_84 : Nat → Option Nat), h_81 x5 = some (.inl (2, n_84, .inr (.inr (.inr (.inr f_84))))) ∧ vp_in x6 n_84 ∧ ∃ vs_84 : List Value, h_81 r_81 = some (.inr (5, vs_84)) ∧ ∀ h_84 : xH, h_84 = x_up h_81 x5 (.inl (2, n_84, .inr (.inr (.inr (.inr (va_up f_84 (x6 : Int32).toNatClampNeg (some r_81))))))) → ∀ (x6_85 : Int32), x6_85 = x6 + 1 → wl_X4_plus_44  post K91 n h_84 (((kc - mc_66) - mc_78) - mc_81) (((ks - ms_66) - ms_78) - ms_81) x0 x1 x3 x4 x5 x6_85))))
def wp_X4_plus (h0 : xH) (mc ms : Nat) (x0 : Nat) (x1 : Nat) (post : Nat → xH → Prop) : Prop := ∃ fs_1 : List Value, h0 x0 = some (.inr (4, fs_1)) ∧ ∃ v_1 : Nat, fs_1[3]? = some (.ref v_1) ∧ ∃ fs_5 : List Value, h0 x1 = some (.inr (4, fs_5)) ∧ ∃ v_5 : Nat, fs_5[3]? = some (.ref v_5) ∧ ∃ mc_8 ms_8 : Nat, mc_8 ≤ mc ∧ ms_8 ≤ ms ∧ wp_X5_commonDivisor h0 mc_8 ms_8 v_1 v_5 (fun (r_8 : Nat) (h_8 : xH) => ∃ fs_13 : List Value, h_8 x1 = some (.inr (4, fs_13)) ∧ ∃ v_13 : Nat, fs_13[3]? = some (.ref v_13) ∧ ∃ fs_17 : List Value, h_8 v_13 = some (.inr (5, fs_17)) ∧ ∃ mc_17 ms_17 : Nat, mc_17 ≤ (mc - mc_8) ∧ ms_17 ≤ (ms - ms_8) ∧ wp_X5_dividedBy h_8 mc_17 ms_17 v_13 r_8 (fun (r_17 : Nat) (h_17 : xH) => ∃ fs_22 : List Value, h_17 x0 = some (.inr (4, fs_22)) ∧ ∃ v_22 : Nat, fs_22[3]? = some (.ref v_22) ∧ ∃ fs_26 : List Value, h_17 v_22 = some (.inr (5, fs_26)) ∧ ∃ mc_26 ms_26 : Nat, mc_26 ≤ ((mc - mc_8) - mc_17) ∧ ms_26 ≤ ((ms - ms_8) - ms_17) ∧ wp_X5_dividedBy h_17 mc_26 ms_26 v_22 r_8 (fun (r_26 : Nat) (h_26 : xH) => ∃ fs_32 : List Value, h_26 x0 = some (.inr (4, fs_32)) ∧ ∃ v_32 : Nat, fs_32[2]? = some (.ref v_32) ∧ ∃ (n_35 : Nat) (f_35 : Nat → Option Nat), h_26 v_32 = some (.inl (2, n_35, .inr (.inr (.inr (.inr f_35))))) ∧ ¬ ((nI n_35) : Int32) < 0 ∧ ∀ z_36 : Nat, ((nI n_35) : Int32).toNatClampNeg = z_36 → z_36 ≤ 60000000 ∧ 1 ≤ (((mc - mc_8) - mc_17) - mc_26) ∧ z_36 ≤ (((ms - ms_8) - ms_17) - ms_26) ∧ ∀ q_36 : Nat, x_fresh h_26 q_36 → ∀ h_36 : xH, h_36 = x_up h_26 q_36 (.inl (2, z_36, .inr (.inr (.inr (.inr (fun _ => none)))))) → ∃ n44 : Nat, wl_X4_plus_44  post (fun (h : xH) (kc : Nat) (ks : Nat) (x0 : Nat) (x3 : Nat) (x5 : Nat) => 1 ≤ kc ∧ 5 ≤ ks ∧ ∀ q_91 : Nat, x_fresh h q_91 → ∀ h_91 : xH, h_91 = x_up h q_91 (.inr (4, [.int 0, .int 0, .null, .null, .null])) → ∃ fs_96 : List Value, h_91 x0 = some (.inr (4, fs_96)) ∧ ∃ v_96 : Int32, fs_96[0]? = some (.int v_96) ∧ ∃ v_100 : Int32, fs_96[1]? = some (.int v_100) ∧ ∃ v_106 : Nat, fs_96[3]? = some (.ref v_106) ∧ ∃ fs_110 : List Value, h_91 v_106 = some (.inr (5, fs_110)) ∧ ∃ mc_110 ms_110 : Nat, mc_110 ≤ (kc - 1) ∧ ms_110 ≤ (ks - 5) ∧ wp_X5_times h_91 mc_110 ms_110 v_106 x3 (fun (r_110 : Nat) (h_110 : xH) => ∃ mc_113 ms_113 : Nat, mc_113 ≤ ((kc - 1) - mc_110) ∧ ms_113 ≤ ((ks - 5) - ms_110) ∧ wp_X4_init h_110 mc_113 ms_113 q_91 v_96 v_100 x5 r_110 (fun (h_113 : xH) => post q_91 h_113))) n44 h_36 ((((mc - mc_8) - mc_17) - mc_26) - 1) ((((ms - ms_8) - ms_17) - ms_26) - z_36) x0 x1 r_17 r_26 q_36 0)))
set_option maxHeartbeats 4000000 in
set_option maxRecDepth 100000 in
theorem ml_X4_plus_44 (C : CX p s m args meth c G RX4 cX4_plus 7 (some (.object "ExactFilter$Table"))) (h0 : xH) (mc ms : Nat) (post : Nat → xH → Prop) (K91 : xH → Nat → Nat → Nat → Nat → Nat → Prop)
    (hK91 : (∀ (h : xH) (kc : Nat) (ks : Nat) (x0 : Nat) (x3 : Nat) (x5 : Nat) (H : Heap) (locs : List Loc) (ls : Array Slot) (nc ns : Nat), K91 h kc ks x0 x3 x5 → x_I G (x_A h0 s.heap.size) s.heap h H locs → nc + kc ≤ mc → ns + ks ≤ ms → lv_has ls 7 [(0, .ref x0), (3, .ref x3), (5, .ref x5)] → W p l e (rX4_plus mc ms) s m args below meth c H locs nc ns (MQ below (x_Qr G h0 s.heap.size post) args s mc ms (x_A h0 s.heap.size)) (F0 m 91 ls []))) :
    ∀ (n : Nat) (h : xH) (kc : Nat) (ks : Nat) (x0 : Nat) (x1 : Nat) (x3 : Nat) (x4 : Nat) (x5 : Nat) (x6 : Int32) (H : Heap) (locs : List Loc) (ls : Array Slot) (nc ns : Nat), wl_X4_plus_44  post K91 n h kc ks x0 x1 x3 x4 x5 x6 → x_I G (x_A h0 s.heap.size) s.heap h H locs → nc + kc ≤ mc → ns + ks ≤ ms → lv_has ls 7 [(0, .ref x0), (1, .ref x1), (3, .ref x3), (4, .ref x4), (5, .ref x5), (6, .int x6)] → W p l e (rX4_plus mc ms) s m args below meth c H locs nc ns (MQ below (x_Qr G h0 s.heap.size post) args s mc ms (x_A h0 s.heap.size)) (F0 m 44 ls []) := by
  obtain ⟨hx, hb, hr, hml, hown, hg, hlocks, hK⟩ := id C
  intro n
  induction n with
  | zero => intro h kc ks x0 x1 x3 x4 x5 x6 H locs ls nc ns hw; exact absurd hw id
  | succ n ih =>
    intro h kc ks x0 x1 x3 x4 x5 x6 H locs ls nc ns hw hI hkc hks hl
    refine lv_iload hx hb dX4_plus_44 (lv_at hl 5 rfl) ?_
    refine lv_aload_n hx hb dX4_plus_46 rfl (lv_at hl 0 rfl) ?_
    obtain ⟨fs_47, he_47, hw⟩ := hw
    obtain ⟨v_47, hv_47, hw⟩ := hw
    refine x_get (ci := 4) (C := RX4) (T := TX4) (N := 5) hx hb hg ku_X4 hown hK hI he_47 rfl 2 (by decide) (hg _ kf_X4_16) (fun _ h9 => h9) hv_47 dX4_plus_47 ?_
    obtain ⟨n_50, f_50, he_50, hw⟩ := hw
    refine x_alen hx hb hK hI he_50 rfl dX4_plus_50 ?_
    refine W.eq (g2 := F0 m 51 ls (.int (nI n_50) :: .int x6 :: [])) rfl ?_
    refine lv_icmp_ge (tgt := 91) hx hb dX4_plus_51 (by decide) (fun hc51 => ?_) (fun hc51 => ?_)
    · have hw := hw.1 hc51
      exact hK91 _ _ _ _ _ _ _ _ _ _ _ hw hI (by omega) (by omega) (lv_sub hl [0, 2, 4] rfl)
    · have hw := hw.2 hc51
      refine lv_aload hx hb dX4_plus_54 (lv_at hl 4 rfl) ?_
      refine lv_iload hx hb dX4_plus_56 (lv_at hl 5 rfl) ?_
      refine lv_aload_n hx hb dX4_plus_58 rfl (lv_at hl 0 rfl) ?_
      refine x_get (ci := 4) (C := RX4) (T := TX4) (N := 5) hx hb hg ku_X4 hown hK hI he_47 rfl 2 (by decide) (hg _ kf_X4_16) (fun _ h9 => h9) hv_47 dX4_plus_59 ?_
      refine lv_iload hx hb dX4_plus_62 (lv_at hl 5 rfl) ?_
      obtain ⟨hi64, hw⟩ := hw
      refine x_aald hx hb hK hI he_50 rfl hi64 dX4_plus_64 ?_
      obtain ⟨y_64, ho64, hw⟩ := hw
      rw [ho64]
      refine W.eq (g2 := F0 m 65 ls (.ref y_64 :: .int x6 :: .ref x5 :: [])) rfl ?_
      refine lv_aload_n hx hb dX4_plus_65 rfl (lv_at hl 2 rfl) ?_
      obtain ⟨fs_66, he_66, hw⟩ := hw
      obtain ⟨mc_66, ms_66, hkc1, hks1, hw⟩ := hw
      refine x_cr (va_runV (As := [.ref x3]) (rest := [.int x6, .ref x5]) ⟨hx, hb, hml, hown, hg⟩ (m_X5_times l G h mc_66 ms_66 y_64 x3 _ hw H.size) (cwV 1 hg (x_gV km_X4_50 ki_X5_times kz_X5_X5_times kn_X5 kk_X5_times) rfl rfl rfl (by decide +kernel) ⟨Nat.le_of_ble_eq_true rfl, Nat.le_of_ble_eq_true rfl⟩) ⟨x_blind, x_recv hI hK he_66 rfl rfl, x_pre hI hK⟩ rfl rfl hl.1 rfl (lv_room (Nat.le_of_ble_eq_true rfl)) dX4_plus_66 ⟨show nc + mc_66 ≤ mc by omega, show ns + ms_66 ≤ ms by omega⟩) hI (fun r_66 h_66 H locs hw hI => ?_)
      refine lv_aload_n hx hb dX4_plus_69 rfl (lv_at hl 1 rfl) ?_
      obtain ⟨fs_70, he_70, hw⟩ := hw
      obtain ⟨v_70, hv_70, hw⟩ := hw
      refine x_get (ci := 4) (C := RX4) (T := TX4) (N := 5) hx hb hg ku_X4 hown hK hI he_70 rfl 2 (by decide) (hg _ kf_X4_16) (fun _ h9 => h9) hv_70 dX4_plus_70 ?_
      refine lv_iload hx hb dX4_plus_73 (lv_at hl 5 rfl) ?_
      obtain ⟨n_75, f_75, he_75, hw⟩ := hw
      obtain ⟨hi75, hw⟩ := hw
      refine x_aald hx hb hK hI he_75 rfl hi75 dX4_plus_75 ?_
      obtain ⟨y_75, ho75, hw⟩ := hw
      rw [ho75]
      refine W.eq (g2 := F0 m 76 ls (.ref y_75 :: .ref r_66 :: .int x6 :: .ref x5 :: [])) rfl ?_
      refine lv_aload hx hb dX4_plus_76 (lv_at hl 3 rfl) ?_
      obtain ⟨fs_78, he_78, hw⟩ := hw
      obtain ⟨mc_78, ms_78, hkc1, hks1, hw⟩ := hw
      refine x_cr (va_runV (As := [.ref x4]) (rest := [.ref r_66, .int x6, .ref x5]) ⟨hx, hb, hml, hown, hg⟩ (m_X5_times l G h_66 mc_78 ms_78 y_75 x4 _ hw H.size) (cwV 1 hg (x_gV km_X4_50 ki_X5_times kz_X5_X5_times kn_X5 kk_X5_times) rfl rfl rfl (by decide +kernel) ⟨Nat.le_of_ble_eq_true rfl, Nat.le_of_ble_eq_true rfl⟩) ⟨x_blind, x_recv hI hK he_78 rfl rfl, x_pre hI hK⟩ rfl rfl hl.1 rfl (lv_room (Nat.le_of_ble_eq_true rfl)) dX4_plus_78 ⟨show nc + mc_66 + mc_78 ≤ mc by omega, show ns + ms_66 + ms_78 ≤ ms by omega⟩) hI (fun r_78 h_78 H locs hw hI => ?_)
      obtain ⟨fs_81, he_81, hw⟩ := hw
      obtain ⟨mc_81, ms_81, hkc1, hks1, hw⟩ := hw
      refine x_cr (va_runV (As := [.ref r_78]) (rest := [.int x6, .ref x5]) ⟨hx, hb, hml, hown, hg⟩ (m_X5_plus l G h_78 mc_81 ms_81 r_66 r_78 _ hw H.size) (cwV 1 hg (x_gV km_X4_54 ki_X5_plus kz_X5_X5_plus kn_X5 kk_X5_plus) rfl rfl rfl (by decide +kernel) ⟨Nat.le_of_ble_eq_true rfl, Nat.le_of_ble_eq_true rfl⟩) ⟨x_blind, x_recv hI hK he_81 rfl rfl, x_pre hI hK⟩ rfl rfl hl.1 rfl (lv_room (Nat.le_of_ble_eq_true rfl)) dX4_plus_81 ⟨show nc + mc_66 + mc_78 + mc_81 ≤ mc by omega, show ns + ms_66 + ms_78 + ms_81 ≤ ms by omega⟩) hI (fun r_81 h_81 H locs hw hI => ?_)
      obtain ⟨n_84, f_84, he_84, hw⟩ := hw
      obtain ⟨hi84, hw⟩ := hw
      obtain ⟨vs_84, hvs_84, hw⟩ := hw
      refine x_aast (r := (RX5, TX5, 3)) hx hb hK hI he_84 rfl hvs_84 rfl hi84 dX4_plus_84 (fun H locs hI => ?_)
      obtain ⟨h_84, eh_84⟩ : ∃ z : xH, z = x_up h_81 x5 (.inl (2, n_84, .inr (.inr (.inr (.inr (va_up f_84 (x6 : Int32).toNatClampNeg (some r_81))))))) := ⟨_, rfl⟩
      rw [← eh_84] at hI
      have hw := hw h_84 eh_84
      have heh_84 : h_84 x5 = some (.inl (2, n_84, .inr (.inr (.inr (.inr (va_up f_84 (x6 : Int32).toNatClampNeg (some r_81))))))) := by rw [eh_84]; exact x_up_s
      obtain ⟨x6_85, ex6_85⟩ : ∃ y : Int32, y = x6 + 1 := ⟨_, rfl⟩
      have hw := hw x6_85 ex6_85
      refine lv_iinc (v := x6_85) (lv' := [(6, .int x6_85), (0, .ref x0), (1, .ref x1), (3, .ref x3), (4, .ref x4), (5, .ref x5)]) hx hb dX4_plus_85 hl (k := 5) rfl (by rw [ex6_85]; rfl) (by decide) rfl (fun ls hl => ?_)
      refine lv_goto (tgt := 44) hx hb dX4_plus_88 (by decide) ?_
      exact ih _ _ _ _ _ _ _ _ _ _ _ _ _ _ hw hI (by omega) (by omega) (lv_sub hl [1, 2, 3, 4, 5, 0] rfl)
set_option maxHeartbeats 4000000 in
set_option maxRecDepth 100000 in
theorem m_X4_plus (l : Launch) (G : xG) (h0 : xH) (mc ms : Nat) (x0 : Nat) (x1 : Nat) (post : Nat → xH → Prop) (hw : wp_X4_plus h0 mc ms x0 x1 post) (sz : Nat) : Met l yX4_plus (wu yX4_plus cX4_plus 7 (some (.object "ExactFilter$Table"))) (rX4_plus mc ms) (x_Pc G [.ref x0, .ref x1] h0 sz) (x_Qr G h0 sz post) mc ms (x_A h0 sz) := by
  refine Met.ofW (cc := cX4_plus) (maxL := 7) (ret := (some (.object "ExactFilter$Table"))) (by decide) rfl ?_
  intro p e s m args below meth c s₁ B hml hv
  obtain ⟨rfl, hsz, hR, hK⟩ := hv
  subst hsz
  have C : CX p s m _ meth c G RX4 cX4_plus 7 (some (.object "ExactFilter$Table")) := ⟨B.exec, B.bytes, B.returns, hml, findClass_of_methodNamed B.named, x_hg (atoms_spec (ws := wu yX4_plus cX4_plus 7 (some (.object "ExactFilter$Table"))) B.pre), B.notSynchronized, hK⟩
  obtain ⟨hx, hb, hr, hml, hown, hg, hlocks, hK⟩ := id C
  have hI : x_I G (x_A h0 s.heap.size) s.heap h0 s.heap [] := x_I.start hR
  have hkc : 0 + mc ≤ mc := by omega
  have hks : 0 + ms ≤ ms := by omega
  have hl := lv_entry ([.ref x0, .ref x1]) (n := 7) (Nat.le_of_ble_eq_true rfl)
  rw [lg_entry_eq]
  generalize (lg_sl ([.ref x0, .ref x1]) ++ List.replicate (7 - (lg_sl ([.ref x0, .ref x1])).length) Slot.unset).toArray = ls at hl ⊢
  have hl : lv_has ls 7 [(0, .ref x0), (1, .ref x1)] := hl
  unfold wp_X4_plus at hw
  refine lv_aload_n hx hb dX4_plus_0 rfl (lv_at hl 0 rfl) ?_
  obtain ⟨fs_1, he_1, hw⟩ := hw
  obtain ⟨v_1, hv_1, hw⟩ := hw
  refine x_get (ci := 4) (C := RX4) (T := TX4) (N := 5) hx hb hg ku_X4 hown hK hI he_1 rfl 3 (by decide) (hg _ kf_X4_20) (fun _ h9 => h9) hv_1 dX4_plus_1 ?_
  refine lv_aload_n hx hb dX4_plus_4 rfl (lv_at hl 1 rfl) ?_
  obtain ⟨fs_5, he_5, hw⟩ := hw
  obtain ⟨v_5, hv_5, hw⟩ := hw
  refine x_get (ci := 4) (C := RX4) (T := TX4) (N := 5) hx hb hg ku_X4 hown hK hI he_5 rfl 3 (by decide) (hg _ kf_X4_20) (fun _ h9 => h9) hv_5 dX4_plus_5 ?_
  obtain ⟨mc_8, ms_8, hkc1, hks1, hw⟩ := hw
  refine x_cr (va_runS (As := [.ref v_1, .ref v_5]) (rest := []) ⟨hx, hb, hml, hown, hg⟩ (m_X5_commonDivisor l G h0 mc_8 ms_8 v_1 v_5 _ hw s.heap.size) (va_cwS 2 hg (x_gS km_X4_57 ks_X5_commonDivisor kn_X5 kk_X5_commonDivisor) rfl rfl rfl (by decide +kernel) ⟨Nat.le_of_ble_eq_true rfl, Nat.le_of_ble_eq_true rfl⟩) ⟨x_blind, x_pre hI hK⟩ rfl rfl hl.1 rfl (lv_room (Nat.le_of_ble_eq_true rfl)) dX4_plus_8 ⟨show 0 + mc_8 ≤ mc by omega, show 0 + ms_8 ≤ ms by omega⟩) hI (fun r_8 h_8 H locs hw hI => ?_)
  refine lv_astore_n (lv' := [(2, .ref r_8), (0, .ref x0), (1, .ref x1)]) hx hb dX4_plus_11 rfl hl (by decide) rfl (fun ls hl => ?_)
  refine lv_aload_n hx hb dX4_plus_12 rfl (lv_at hl 2 rfl) ?_
  obtain ⟨fs_13, he_13, hw⟩ := hw
  obtain ⟨v_13, hv_13, hw⟩ := hw
  refine x_get (ci := 4) (C := RX4) (T := TX4) (N := 5) hx hb hg ku_X4 hown hK hI he_13 rfl 3 (by decide) (hg _ kf_X4_20) (fun _ h9 => h9) hv_13 dX4_plus_13 ?_
  refine lv_aload_n hx hb dX4_plus_16 rfl (lv_at hl 0 rfl) ?_
  obtain ⟨fs_17, he_17, hw⟩ := hw
  obtain ⟨mc_17, ms_17, hkc1, hks1, hw⟩ := hw
  refine x_cr (va_runV (As := [.ref r_8]) (rest := []) ⟨hx, hb, hml, hown, hg⟩ (m_X5_dividedBy l G h_8 mc_17 ms_17 v_13 r_8 _ hw H.size) (cwV 1 hg (x_gV km_X4_61 ki_X5_dividedBy kz_X5_X5_dividedBy kn_X5 kk_X5_dividedBy) rfl rfl rfl (by decide +kernel) ⟨Nat.le_of_ble_eq_true rfl, Nat.le_of_ble_eq_true rfl⟩) ⟨x_blind, x_recv hI hK he_17 rfl rfl, x_pre hI hK⟩ rfl rfl hl.1 rfl (lv_room (Nat.le_of_ble_eq_true rfl)) dX4_plus_17 ⟨show 0 + mc_8 + mc_17 ≤ mc by omega, show 0 + ms_8 + ms_17 ≤ ms by omega⟩) hI (fun r_17 h_17 H locs hw hI => ?_)
  refine lv_astore_n (lv' := [(3, .ref r_17), (2, .ref r_8), (0, .ref x0), (1, .ref x1)]) hx hb dX4_plus_20 rfl hl (by decide) rfl (fun ls hl => ?_)
  refine lv_aload_n hx hb dX4_plus_21 rfl (lv_at hl 2 rfl) ?_
  obtain ⟨fs_22, he_22, hw⟩ := hw
  obtain ⟨v_22, hv_22, hw⟩ := hw
  refine x_get (ci := 4) (C := RX4) (T := TX4) (N := 5) hx hb hg ku_X4 hown hK hI he_22 rfl 3 (by decide) (hg _ kf_X4_20) (fun _ h9 => h9) hv_22 dX4_plus_22 ?_
  refine lv_aload_n hx hb dX4_plus_25 rfl (lv_at hl 1 rfl) ?_
  obtain ⟨fs_26, he_26, hw⟩ := hw
  obtain ⟨mc_26, ms_26, hkc1, hks1, hw⟩ := hw
  refine x_cr (va_runV (As := [.ref r_8]) (rest := []) ⟨hx, hb, hml, hown, hg⟩ (m_X5_dividedBy l G h_17 mc_26 ms_26 v_22 r_8 _ hw H.size) (cwV 1 hg (x_gV km_X4_61 ki_X5_dividedBy kz_X5_X5_dividedBy kn_X5 kk_X5_dividedBy) rfl rfl rfl (by decide +kernel) ⟨Nat.le_of_ble_eq_true rfl, Nat.le_of_ble_eq_true rfl⟩) ⟨x_blind, x_recv hI hK he_26 rfl rfl, x_pre hI hK⟩ rfl rfl hl.1 rfl (lv_room (Nat.le_of_ble_eq_true rfl)) dX4_plus_26 ⟨show 0 + mc_8 + mc_17 + mc_26 ≤ mc by omega, show 0 + ms_8 + ms_17 + ms_26 ≤ ms by omega⟩) hI (fun r_26 h_26 H locs hw hI => ?_)
  refine lv_astore (lv' := [(4, .ref r_26), (3, .ref r_17), (2, .ref r_8), (0, .ref x0), (1, .ref x1)]) hx hb dX4_plus_29 hl (by decide) rfl (fun ls hl => ?_)
  refine lv_aload_n hx hb dX4_plus_31 rfl (lv_at hl 3 rfl) ?_
  obtain ⟨fs_32, he_32, hw⟩ := hw
  obtain ⟨v_32, hv_32, hw⟩ := hw
  refine x_get (ci := 4) (C := RX4) (T := TX4) (N := 5) hx hb hg ku_X4 hown hK hI he_32 rfl 2 (by decide) (hg _ kf_X4_16) (fun _ h9 => h9) hv_32 dX4_plus_32 ?_
  obtain ⟨n_35, f_35, he_35, hw⟩ := hw
  refine x_alen hx hb hK hI he_35 rfl dX4_plus_35 ?_
  refine W.eq (g2 := F0 m 36 ls (.int (nI n_35) :: [])) rfl ?_
  obtain ⟨hneg36, hw⟩ := hw
  obtain ⟨z_36, hz36⟩ : ∃ z : Nat, ((nI n_35) : Int32).toNatClampNeg = z := ⟨_, rfl⟩
  obtain ⟨hz236, hkc1, hks1, hw⟩ := hw z_36 hz36
  refine x_newq (t0 := 2) hx hb hown (hg _ kl_X4_30) hK.2.1 hK hI rfl hneg36 hz36 (by omega) (show 0 + mc_8 + mc_17 + mc_26 + 1 ≤ mc by omega) (show 0 + ms_8 + ms_17 + ms_26 + z_36 ≤ ms by omega) dX4_plus_36 (fun q_36 H hfr36 hI => ?_)
  have hw := hw q_36 hfr36
  obtain ⟨h_36, eh_36⟩ : ∃ z : xH, z = x_up h_26 q_36 (.inl (2, z_36, .inr (.inr (.inr (.inr (fun _ => none)))))) := ⟨_, rfl⟩
  rw [← eh_36] at hI
  have hw := hw h_36 eh_36
  have heh_36 : h_36 q_36 = some (.inl (2, z_36, .inr (.inr (.inr (.inr (fun _ => none)))))) := by rw [eh_36]; exact x_up_s
  refine lv_astore (lv' := [(5, .ref q_36), (4, .ref r_26), (3, .ref r_17), (2, .ref r_8), (0, .ref x0), (1, .ref x1)]) hx hb dX4_plus_39 hl (by decide) rfl (fun ls hl => ?_)
  refine lv_iconst (v := 0) hx hb dX4_plus_41 (by decide) ?_
  refine lv_istore (lv' := [(6, .int 0), (5, .ref q_36), (4, .ref r_26), (3, .ref r_17), (2, .ref r_8), (0, .ref x0), (1, .ref x1)]) hx hb dX4_plus_42 hl (by decide) rfl (fun ls hl => ?_)
  obtain ⟨n44, hw⟩ := hw
  refine ml_X4_plus_44 C h0 mc ms post _ ?_ n44 _ _ _ _ _ _ _ _ _ _ _ _ _ _ hw hI (by omega) (by omega) (lv_sub hl [5, 6, 3, 2, 1, 0] rfl)
  · intro h kc ks x0 x3 x5 H locs ls nc ns hw hI hkc hks hl
    obtain ⟨hkc1, hks1, hw⟩ := hw
    refine x_new (ci := 4) (fs := [.int 0, .int 0, .null, .null, .null]) (C := RX4) (T := TX4) (N := 5) hx hb hg ku_X4 tyX4 tyX4_ok hown (hg _ kl_X4_8) (hg _ kt_X4) (hg _ kn_X4) hK hI rfl (by decide +kernel) (show nc + 1 ≤ mc by omega) (show ns + 5 ≤ ms by omega) dX4_plus_91 (fun q_91 H hfr91 hI => ?_)
    have hw := hw q_91 hfr91
    obtain ⟨h_91, eh_91⟩ : ∃ z : xH, z = x_up h q_91 (.inr (4, [.int 0, .int 0, .null, .null, .null])) := ⟨_, rfl⟩
    rw [← eh_91] at hI
    have hw := hw h_91 eh_91
    have heh_91 : h_91 q_91 = some (.inr (4, [.int 0, .int 0, .null, .null, .null])) := by rw [eh_91]; exact x_up_s
    refine lv_dup hx hb dX4_plus_94 rfl ?_
    refine lv_aload_n hx hb dX4_plus_95 rfl (lv_at hl 0 rfl) ?_
    obtain ⟨fs_96, he_96, hw⟩ := hw
    obtain ⟨v_96, hv_96, hw⟩ := hw
    refine x_get (ci := 4) (C := RX4) (T := TX4) (N := 5) hx hb hg ku_X4 hown hK hI he_96 rfl 0 (by decide) (hg _ kf_X4_7) (fun _ h9 => h9) hv_96 dX4_plus_96 ?_
    refine lv_aload_n hx hb dX4_plus_99 rfl (lv_at hl 0 rfl) ?_
    obtain ⟨v_100, hv_100, hw⟩ := hw
    refine x_get (ci := 4) (C := RX4) (T := TX4) (N := 5) hx hb hg ku_X4 hown hK hI he_96 rfl 1 (by decide) (hg _ kf_X4_13) (fun _ h9 => h9) hv_100 dX4_plus_100 ?_
    refine lv_aload hx hb dX4_plus_103 (lv_at hl 2 rfl) ?_
    refine lv_aload_n hx hb dX4_plus_105 rfl (lv_at hl 0 rfl) ?_
    obtain ⟨v_106, hv_106, hw⟩ := hw
    refine x_get (ci := 4) (C := RX4) (T := TX4) (N := 5) hx hb hg ku_X4 hown hK hI he_96 rfl 3 (by decide) (hg _ kf_X4_20) (fun _ h9 => h9) hv_106 dX4_plus_106 ?_
    refine lv_aload_n hx hb dX4_plus_109 rfl (lv_at hl 1 rfl) ?_
    obtain ⟨fs_110, he_110, hw⟩ := hw
    obtain ⟨mc_110, ms_110, hkc1, hks1, hw⟩ := hw
    refine x_cr (va_runV (As := [.ref x3]) (rest := [.ref x5, .int v_100, .int v_96, .ref q_91, .ref q_91]) ⟨hx, hb, hml, hown, hg⟩ (m_X5_times l G h_91 mc_110 ms_110 v_106 x3 _ hw H.size) (cwV 1 hg (x_gV km_X4_50 ki_X5_times kz_X5_X5_times kn_X5 kk_X5_times) rfl rfl rfl (by decide +kernel) ⟨Nat.le_of_ble_eq_true rfl, Nat.le_of_ble_eq_true rfl⟩) ⟨x_blind, x_recv hI hK he_110 rfl rfl, x_pre hI hK⟩ rfl rfl hl.1 rfl (lv_room (Nat.le_of_ble_eq_true rfl)) dX4_plus_110 ⟨show nc + 1 + mc_110 ≤ mc by omega, show ns + 5 + ms_110 ≤ ms by omega⟩) hI (fun r_110 h_110 H locs hw hI => ?_)
    obtain ⟨mc_113, ms_113, hkc1, hks1, hw⟩ := hw
    refine x_cv (va_runI (As := [.int v_96, .int v_100, .ref x5, .ref r_110]) (rest := [.ref q_91]) ⟨hx, hb, hml, hown, hg⟩ (m_X4_init l G h_110 mc_113 ms_113 q_91 v_96 v_100 x5 r_110 _ hw H.size) (cwI 4 hg (x_gI kk_X4_init) rfl rfl rfl (hg _ kn_X4) (hg _ km_X4_36) (hg _ ki_X4_init) rfl (by decide +kernel) ⟨Nat.le_of_ble_eq_true rfl, Nat.le_of_ble_eq_true rfl⟩) ⟨x_blind, x_pre hI hK⟩ rfl rfl hl.1 rfl (lv_room (Nat.le_of_ble_eq_true rfl)) dX4_plus_113 ⟨show nc + 1 + mc_110 + mc_113 ≤ mc by omega, show ns + 5 + ms_110 + ms_113 ≤ ms by omega⟩) hI (fun h_113 H locs hw hI => ?_)
    exact x_aret hx hb hr (by first | exact Or.inl ⟨_, rfl⟩ | exact Or.inr ⟨_, rfl⟩) hlocks hI hw (by omega) (by omega) dX4_plus_116
-- ===== ExactFilter$Table.minus
abbrev rX4_minus (mc ms : Nat) : Room := { frames := 7, cells := mc, slots := ms, locals := 175 }
def wl_X4_minus_11  (post : Nat → xH → Prop) (K35 : xH → Nat → Nat → Nat → Nat → Nat → Prop) : Nat → xH → Nat → Nat → Nat → Nat → Nat → Int32 → Prop
  | 0, _, _, _, _, _, _, _ => False
  | n + 1, h, kc, ks, x0, x1, x2, x3 => ∃ (n_13 : Nat) (f_13 : Nat → Option Nat), h x2 = some (.inl (2, n_13, .inr (.inr (.inr (.inr f_13))))) ∧ ((nI n_13) ≤ x3 → K35 h kc ks x0 x1 x2) ∧ (¬ (nI n_13) ≤ x3 → ∃ fs_20 : List Value, h x1 = some (.inr (4, fs_20)) ∧ ∃ v_20 : Nat, fs_20[2]? = some (.ref v_20) ∧ ∃ (n_24 : Nat) (f_24 : Nat → Option Nat), h v_20 = some (.inl (2, n_24, .inr (.inr (.inr (.inr f_24))))) ∧ vp_in x3 n_24 ∧ ∃ y_24 : Nat, (f_24 (x3 : Int32).toNatClampNeg) = some y_24 ∧ ∃ fs_25 : List Value, h y_24 = some (.inr (5, fs_25)) ∧ ∃ mc_25 ms_25 : Nat, mc_25 ≤ kc ∧ ms_25 ≤ ks ∧ wp_X5_negative h mc_25 ms_25 y_24 (fun (r_25 : Nat) (h_25 : xH) => ∃ (n_28 : Nat) (f_28 : Nat → Option Nat), h_25 x2 = some (.inl (2, n_28, .inr (.inr (.inr (.inr f_28))))) ∧ vp_in x3 n_28 ∧ ∃ vs_28 : List Value, h_25 r_25 = some (.inr (5, vs_28)) ∧ ∀ h_28 : xH, h_28 = x_up h_25 x2 (.inl (2, n_28, .inr (.inr (.inr (.inr (va_up f_28 (x3 : Int32).toNatClampNeg (some r_25))))))) → ∀ (x3_29 : Int32), x3_29 = x3 + 1 → wl_X4_minus_11  post K35 n h_28 (kc - mc_25) (ks - ms_25) x0 x1 x2 x3_29))
def wp_X4_minus (h0 : xH) (mc ms : Nat) (x0 : Nat) (x1 : Nat) (post : Nat → xH → Prop) : Prop := ∃ fs_1 : List Value, h0 x1 = some (.inr (4, fs_1)) ∧ ∃ v_1 : Nat, fs_1[2]? = some (.ref v_1) ∧ ∃ (n_4 : Nat) (f_4 : Nat → Option Nat), h0 v_1 = some (.inl (2, n_4, .inr (.inr (.inr (.inr f_4))))) ∧ ¬ ((nI n_4) : Int32) < 0 ∧ ∀ z_5 : Nat, ((nI n_4) : Int32).toNatClampNeg = z_5 → z_5 ≤ 60000000 ∧ 1 ≤ mc ∧ z_5 ≤ ms ∧ ∀ q_5 : Nat, x_fresh h0 q_5 → ∀ h_5 : xH, h_5 = x_up h0 q_5 (.inl (2, z_5, .inr (.inr (.inr (.inr (fun _ => none)))))) → ∃ n11 : Nat, wl_X4_minus_11  post (fun (h : xH) (kc : Nat) (ks : Nat) (x0 : Nat) (x1 : Nat) (x2 : Nat) => 1 ≤ kc ∧ 5 ≤ ks ∧ ∀ q_36 : Nat, x_fresh h q_36 → ∀ h_36 : xH, h_36 = x_up h q_36 (.inr (4, [.int 0, .int 0, .null, .null, .null])) → ∃ fs_41 : List Value, h_36 x0 = some (.inr (4, fs_41)) ∧ ∃ v_41 : Int32, fs_41[0]? = some (.int v_41) ∧ ∃ v_45 : Int32, fs_41[1]? = some (.int v_45) ∧ ∃ fs_50 : List Value, h_36 x1 = some (.inr (4, fs_50)) ∧ ∃ v_50 : Nat, fs_50[3]? = some (.ref v_50) ∧ ∃ mc_53 ms_53 : Nat, mc_53 ≤ (kc - 1) ∧ ms_53 ≤ (ks - 5) ∧ wp_X4_init h_36 mc_53 ms_53 q_36 v_41 v_45 x2 v_50 (fun (h_53 : xH) => ∃ fs_56 : List Value, h_53 x0 = some (.inr (4, fs_56)) ∧ ∃ mc_56 ms_56 : Nat, mc_56 ≤ ((kc - 1) - mc_53) ∧ ms_56 ≤ ((ks - 5) - ms_53) ∧ wp_X4_plus h_53 mc_56 ms_56 x0 q_36 (fun (r_56 : Nat) (h_56 : xH) => post r_56 h_56))) n11 h_5 (mc - 1) (ms - z_5) x0 x1 q_5 0
set_option maxHeartbeats 4000000 in
set_option maxRecDepth 100000 in
theorem ml_X4_minus_11 (C : CX p s m args meth c G RX4 cX4_minus 4 (some (.object "ExactFilter$Table"))) (h0 : xH) (mc ms : Nat) (post : Nat → xH → Prop) (K35 : xH → Nat → Nat → Nat → Nat → Nat → Prop)
    (hK35 : (∀ (h : xH) (kc : Nat) (ks : Nat) (x0 : Nat) (x1 : Nat) (x2 : Nat) (H : Heap) (locs : List Loc) (ls : Array Slot) (nc ns : Nat), K35 h kc ks x0 x1 x2 → x_I G (x_A h0 s.heap.size) s.heap h H locs → nc + kc ≤ mc → ns + ks ≤ ms → lv_has ls 4 [(0, .ref x0), (1, .ref x1), (2, .ref x2)] → W p l e (rX4_minus mc ms) s m args below meth c H locs nc ns (MQ below (x_Qr G h0 s.heap.size post) args s mc ms (x_A h0 s.heap.size)) (F0 m 35 ls []))) :
    ∀ (n : Nat) (h : xH) (kc : Nat) (ks : Nat) (x0 : Nat) (x1 : Nat) (x2 : Nat) (x3 : Int32) (H : Heap) (locs : List Loc) (ls : Array Slot) (nc ns : Nat), wl_X4_minus_11  post K35 n h kc ks x0 x1 x2 x3 → x_I G (x_A h0 s.heap.size) s.heap h H locs → nc + kc ≤ mc → ns + ks ≤ ms → lv_has ls 4 [(0, .ref x0), (1, .ref x1), (2, .ref x2), (3, .int x3)] → W p l e (rX4_minus mc ms) s m args below meth c H locs nc ns (MQ below (x_Qr G h0 s.heap.size post) args s mc ms (x_A h0 s.heap.size)) (F0 m 11 ls []) := by
  obtain ⟨hx, hb, hr, hml, hown, hg, hlocks, hK⟩ := id C
  intro n
  induction n with
  | zero => intro h kc ks x0 x1 x2 x3 H locs ls nc ns hw; exact absurd hw id
  | succ n ih =>
    intro h kc ks x0 x1 x2 x3 H locs ls nc ns hw hI hkc hks hl
    refine lv_iload_n hx hb dX4_minus_11 rfl (lv_at hl 3 rfl) ?_
    refine lv_aload_n hx hb dX4_minus_12 rfl (lv_at hl 2 rfl) ?_
    obtain ⟨n_13, f_13, he_13, hw⟩ := hw
    refine x_alen hx hb hK hI he_13 rfl dX4_minus_13 ?_
    refine W.eq (g2 := F0 m 14 ls (.int (nI n_13) :: .int x3 :: [])) rfl ?_
    refine lv_icmp_ge (tgt := 35) hx hb dX4_minus_14 (by decide) (fun hc14 => ?_) (fun hc14 => ?_)
    · have hw := hw.1 hc14
      exact hK35 _ _ _ _ _ _ _ _ _ _ _ hw hI (by omega) (by omega) (lv_sub hl [0, 1, 2] rfl)
    · have hw := hw.2 hc14
      refine lv_aload_n hx hb dX4_minus_17 rfl (lv_at hl 2 rfl) ?_
      refine lv_iload_n hx hb dX4_minus_18 rfl (lv_at hl 3 rfl) ?_
      refine lv_aload_n hx hb dX4_minus_19 rfl (lv_at hl 1 rfl) ?_
      obtain ⟨fs_20, he_20, hw⟩ := hw
      obtain ⟨v_20, hv_20, hw⟩ := hw
      refine x_get (ci := 4) (C := RX4) (T := TX4) (N := 5) hx hb hg ku_X4 hown hK hI he_20 rfl 2 (by decide) (hg _ kf_X4_16) (fun _ h9 => h9) hv_20 dX4_minus_20 ?_
      refine lv_iload_n hx hb dX4_minus_23 rfl (lv_at hl 3 rfl) ?_
      obtain ⟨n_24, f_24, he_24, hw⟩ := hw
      obtain ⟨hi24, hw⟩ := hw
      refine x_aald hx hb hK hI he_24 rfl hi24 dX4_minus_24 ?_
      obtain ⟨y_24, ho24, hw⟩ := hw
      rw [ho24]
      refine W.eq (g2 := F0 m 25 ls (.ref y_24 :: .int x3 :: .ref x2 :: [])) rfl ?_
      obtain ⟨fs_25, he_25, hw⟩ := hw
      obtain ⟨mc_25, ms_25, hkc1, hks1, hw⟩ := hw
      refine x_cr (va_runV (As := []) (rest := [.int x3, .ref x2]) ⟨hx, hb, hml, hown, hg⟩ (m_X5_negative l G h mc_25 ms_25 y_24 _ hw H.size) (cwV 0 hg (x_gV km_X4_64 ki_X5_negative kz_X5_X5_negative kn_X5 kk_X5_negative) rfl rfl rfl (by decide +kernel) ⟨Nat.le_of_ble_eq_true rfl, Nat.le_of_ble_eq_true rfl⟩) ⟨x_blind, x_recv hI hK he_25 rfl rfl, x_pre hI hK⟩ rfl rfl hl.1 rfl (lv_room (Nat.le_of_ble_eq_true rfl)) dX4_minus_25 ⟨show nc + mc_25 ≤ mc by omega, show ns + ms_25 ≤ ms by omega⟩) hI (fun r_25 h_25 H locs hw hI => ?_)
      obtain ⟨n_28, f_28, he_28, hw⟩ := hw
      obtain ⟨hi28, hw⟩ := hw
      obtain ⟨vs_28, hvs_28, hw⟩ := hw
      refine x_aast (r := (RX5, TX5, 3)) hx hb hK hI he_28 rfl hvs_28 rfl hi28 dX4_minus_28 (fun H locs hI => ?_)
      obtain ⟨h_28, eh_28⟩ : ∃ z : xH, z = x_up h_25 x2 (.inl (2, n_28, .inr (.inr (.inr (.inr (va_up f_28 (x3 : Int32).toNatClampNeg (some r_25))))))) := ⟨_, rfl⟩
      rw [← eh_28] at hI
      have hw := hw h_28 eh_28
      have heh_28 : h_28 x2 = some (.inl (2, n_28, .inr (.inr (.inr (.inr (va_up f_28 (x3 : Int32).toNatClampNeg (some r_25))))))) := by rw [eh_28]; exact x_up_s
      obtain ⟨x3_29, ex3_29⟩ : ∃ y : Int32, y = x3 + 1 := ⟨_, rfl⟩
      have hw := hw x3_29 ex3_29
      refine lv_iinc (v := x3_29) (lv' := [(3, .int x3_29), (0, .ref x0), (1, .ref x1), (2, .ref x2)]) hx hb dX4_minus_29 hl (k := 3) rfl (by rw [ex3_29]; rfl) (by decide) rfl (fun ls hl => ?_)
      refine lv_goto (tgt := 11) hx hb dX4_minus_32 (by decide) ?_
      exact ih _ _ _ _ _ _ _ _ _ _ _ _ hw hI (by omega) (by omega) (lv_sub hl [1, 2, 3, 0] rfl)
set_option maxHeartbeats 4000000 in
set_option maxRecDepth 100000 in
theorem m_X4_minus (l : Launch) (G : xG) (h0 : xH) (mc ms : Nat) (x0 : Nat) (x1 : Nat) (post : Nat → xH → Prop) (hw : wp_X4_minus h0 mc ms x0 x1 post) (sz : Nat) : Met l yX4_minus (wu yX4_minus cX4_minus 4 (some (.object "ExactFilter$Table"))) (rX4_minus mc ms) (x_Pc G [.ref x0, .ref x1] h0 sz) (x_Qr G h0 sz post) mc ms (x_A h0 sz) := by
  refine Met.ofW (cc := cX4_minus) (maxL := 4) (ret := (some (.object "ExactFilter$Table"))) (by decide) rfl ?_
  intro p e s m args below meth c s₁ B hml hv
  obtain ⟨rfl, hsz, hR, hK⟩ := hv
  subst hsz
  have C : CX p s m _ meth c G RX4 cX4_minus 4 (some (.object "ExactFilter$Table")) := ⟨B.exec, B.bytes, B.returns, hml, findClass_of_methodNamed B.named, x_hg (atoms_spec (ws := wu yX4_minus cX4_minus 4 (some (.object "ExactFilter$Table"))) B.pre), B.notSynchronized, hK⟩
  obtain ⟨hx, hb, hr, hml, hown, hg, hlocks, hK⟩ := id C
  have hI : x_I G (x_A h0 s.heap.size) s.heap h0 s.heap [] := x_I.start hR
  have hkc : 0 + mc ≤ mc := by omega
  have hks : 0 + ms ≤ ms := by omega
  have hl := lv_entry ([.ref x0, .ref x1]) (n := 4) (Nat.le_of_ble_eq_true rfl)
  rw [lg_entry_eq]
  generalize (lg_sl ([.ref x0, .ref x1]) ++ List.replicate (4 - (lg_sl ([.ref x0, .ref x1])).length) Slot.unset).toArray = ls at hl ⊢
  have hl : lv_has ls 4 [(0, .ref x0), (1, .ref x1)] := hl
  unfold wp_X4_minus at hw
  refine lv_aload_n hx hb dX4_minus_0 rfl (lv_at hl 1 rfl) ?_
  obtain ⟨fs_1, he_1, hw⟩ := hw
  obtain ⟨v_1, hv_1, hw⟩ := hw
  refine x_get (ci := 4) (C := RX4) (T := TX4) (N := 5) hx hb hg ku_X4 hown hK hI he_1 rfl 2 (by decide) (hg _ kf_X4_16) (fun _ h9 => h9) hv_1 dX4_minus_1 ?_
  obtain ⟨n_4, f_4, he_4, hw⟩ := hw
  refine x_alen hx hb hK hI he_4 rfl dX4_minus_4 ?_
  refine W.eq (g2 := F0 m 5 ls (.int (nI n_4) :: [])) rfl ?_
  obtain ⟨hneg5, hw⟩ := hw
  obtain ⟨z_5, hz5⟩ : ∃ z : Nat, ((nI n_4) : Int32).toNatClampNeg = z := ⟨_, rfl⟩
  obtain ⟨hz25, hkc1, hks1, hw⟩ := hw z_5 hz5
  refine x_newq (t0 := 2) hx hb hown (hg _ kl_X4_30) hK.2.1 hK hI rfl hneg5 hz5 (by omega) (show 0 + 1 ≤ mc by omega) (show 0 + z_5 ≤ ms by omega) dX4_minus_5 (fun q_5 H hfr5 hI => ?_)
  have hw := hw q_5 hfr5
  obtain ⟨h_5, eh_5⟩ : ∃ z : xH, z = x_up h0 q_5 (.inl (2, z_5, .inr (.inr (.inr (.inr (fun _ => none)))))) := ⟨_, rfl⟩
  rw [← eh_5] at hI
  have hw := hw h_5 eh_5
  have heh_5 : h_5 q_5 = some (.inl (2, z_5, .inr (.inr (.inr (.inr (fun _ => none)))))) := by rw [eh_5]; exact x_up_s
  refine lv_astore_n (lv' := [(2, .ref q_5), (0, .ref x0), (1, .ref x1)]) hx hb dX4_minus_8 rfl hl (by decide) rfl (fun ls hl => ?_)
  refine lv_iconst (v := 0) hx hb dX4_minus_9 (by decide) ?_
  refine lv_istore_n (lv' := [(3, .int 0), (2, .ref q_5), (0, .ref x0), (1, .ref x1)]) hx hb dX4_minus_10 rfl hl (by decide) rfl (fun ls hl => ?_)
  obtain ⟨n11, hw⟩ := hw
  refine ml_X4_minus_11 C h0 mc ms post _ ?_ n11 _ _ _ _ _ _ _ _ _ _ _ _ hw hI (by omega) (by omega) (lv_sub hl [2, 3, 1, 0] rfl)
  · intro h kc ks x0 x1 x2 H locs ls nc ns hw hI hkc hks hl
    refine lv_aload_n hx hb dX4_minus_35 rfl (lv_at hl 0 rfl) ?_
    obtain ⟨hkc1, hks1, hw⟩ := hw
    refine x_new (ci := 4) (fs := [.int 0, .int 0, .null, .null, .null]) (C := RX4) (T := TX4) (N := 5) hx hb hg ku_X4 tyX4 tyX4_ok hown (hg _ kl_X4_8) (hg _ kt_X4) (hg _ kn_X4) hK hI rfl (by decide +kernel) (show nc + 1 ≤ mc by omega) (show ns + 5 ≤ ms by omega) dX4_minus_36 (fun q_36 H hfr36 hI => ?_)
    have hw := hw q_36 hfr36
    obtain ⟨h_36, eh_36⟩ : ∃ z : xH, z = x_up h q_36 (.inr (4, [.int 0, .int 0, .null, .null, .null])) := ⟨_, rfl⟩
    rw [← eh_36] at hI
    have hw := hw h_36 eh_36
    have heh_36 : h_36 q_36 = some (.inr (4, [.int 0, .int 0, .null, .null, .null])) := by rw [eh_36]; exact x_up_s
    refine lv_dup hx hb dX4_minus_39 rfl ?_
    refine lv_aload_n hx hb dX4_minus_40 rfl (lv_at hl 0 rfl) ?_
    obtain ⟨fs_41, he_41, hw⟩ := hw
    obtain ⟨v_41, hv_41, hw⟩ := hw
    refine x_get (ci := 4) (C := RX4) (T := TX4) (N := 5) hx hb hg ku_X4 hown hK hI he_41 rfl 0 (by decide) (hg _ kf_X4_7) (fun _ h9 => h9) hv_41 dX4_minus_41 ?_
    refine lv_aload_n hx hb dX4_minus_44 rfl (lv_at hl 0 rfl) ?_
    obtain ⟨v_45, hv_45, hw⟩ := hw
    refine x_get (ci := 4) (C := RX4) (T := TX4) (N := 5) hx hb hg ku_X4 hown hK hI he_41 rfl 1 (by decide) (hg _ kf_X4_13) (fun _ h9 => h9) hv_45 dX4_minus_45 ?_
    refine lv_aload_n hx hb dX4_minus_48 rfl (lv_at hl 2 rfl) ?_
    refine lv_aload_n hx hb dX4_minus_49 rfl (lv_at hl 1 rfl) ?_
    obtain ⟨fs_50, he_50, hw⟩ := hw
    obtain ⟨v_50, hv_50, hw⟩ := hw
    refine x_get (ci := 4) (C := RX4) (T := TX4) (N := 5) hx hb hg ku_X4 hown hK hI he_50 rfl 3 (by decide) (hg _ kf_X4_20) (fun _ h9 => h9) hv_50 dX4_minus_50 ?_
    obtain ⟨mc_53, ms_53, hkc1, hks1, hw⟩ := hw
    refine x_cv (va_runI (As := [.int v_41, .int v_45, .ref x2, .ref v_50]) (rest := [.ref q_36, .ref x0]) ⟨hx, hb, hml, hown, hg⟩ (m_X4_init l G h_36 mc_53 ms_53 q_36 v_41 v_45 x2 v_50 _ hw H.size) (cwI 4 hg (x_gI kk_X4_init) rfl rfl rfl (hg _ kn_X4) (hg _ km_X4_36) (hg _ ki_X4_init) rfl (by decide +kernel) ⟨Nat.le_of_ble_eq_true rfl, Nat.le_of_ble_eq_true rfl⟩) ⟨x_blind, x_pre hI hK⟩ rfl rfl hl.1 rfl (lv_room (Nat.le_of_ble_eq_true rfl)) dX4_minus_53 ⟨show nc + 1 + mc_53 ≤ mc by omega, show ns + 5 + ms_53 ≤ ms by omega⟩) hI (fun h_53 H locs hw hI => ?_)
    obtain ⟨fs_56, he_56, hw⟩ := hw
    obtain ⟨mc_56, ms_56, hkc1, hks1, hw⟩ := hw
    refine x_cr (va_runV (As := [.ref q_36]) (rest := []) ⟨hx, hb, hml, hown, hg⟩ (m_X4_plus l G h_53 mc_56 ms_56 x0 q_36 _ hw H.size) (cwV 1 hg (x_gV km_X4_68 ki_X4_plus kz_X4_X4_plus kn_X4 kk_X4_plus) rfl rfl rfl (by decide +kernel) ⟨Nat.le_of_ble_eq_true rfl, Nat.le_of_ble_eq_true rfl⟩) ⟨x_blind, x_recv hI hK he_56 rfl rfl, x_pre hI hK⟩ rfl rfl hl.1 rfl (lv_room (Nat.le_of_ble_eq_true rfl)) dX4_minus_56 ⟨show nc + 1 + mc_53 + mc_56 ≤ mc by omega, show ns + 5 + ms_53 + ms_56 ≤ ms by omega⟩) hI (fun r_56 h_56 H locs hw hI => ?_)
    exact x_aret hx hb hr (by first | exact Or.inl ⟨_, rfl⟩ | exact Or.inr ⟨_, rfl⟩) hlocks hI hw (by omega) (by omega) dX4_minus_59
-- ===== ExactFilter$Table.over
abbrev rX4_over (mc ms : Nat) : Room := { frames := 6, cells := mc, slots := ms, locals := 149 }
def wl_X4_over_34  (post : Nat → xH → Prop) (K66 : xH → Nat → Nat → Nat → Nat → Nat → Nat → Prop) : Nat → xH → Nat → Nat → Nat → Nat → Nat → Nat → Nat → Int32 → Prop
  | 0, _, _, _, _, _, _, _, _, _ => False
  | n + 1, h, kc, ks, x0, x1, x2, x3, x4, x5 => ∃ fs_37 : List Value, h x0 = some (.inr (4, fs_37)) ∧ ∃ v_37 : Nat, fs_37[2]? = some (.ref v_37) ∧ ∃ (n_40 : Nat) (f_40 : Nat → Option Nat), h v_37 = some (.inl (2, n_40, .inr (.inr (.inr (.inr f_40))))) ∧ ((nI n_40) ≤ x5 → K66 h kc ks x0 x1 x2 x4) ∧ (¬ (nI n_40) ≤ x5 → vp_in x5 n_40 ∧ ∃ y_54 : Nat, (f_40 (x5 : Int32).toNatClampNeg) = some y_54 ∧ ∃ fs_56 : List Value, h y_54 = some (.inr (5, fs_56)) ∧ ∃ mc_56 ms_56 : Nat, mc_56 ≤ kc ∧ ms_56 ≤ ks ∧ wp_X5_times h mc_56 ms_56 y_54 x3 (fun (r_56 : Nat) (h_56 : xH) => ∃ (n_59 : Nat) (f_59 : Nat → Option Nat), h_56 x4 = some (.inl (2, n_59, .inr (.inr (.inr (.inr f_59))))) ∧ vp_in x5 n_59 ∧ ∃ vs_59 : List Value, h_56 r_56 = some (.inr (5, vs_59)) ∧ ∀ h_59 : xH, h_59 = x_up h_56 x4 (.inl (2, n_59, .inr (.inr (.inr (.inr (va_up f_59 (x5 : Int32).toNatClampNeg (some r_56))))))) → ∀ (x5_60 : Int32), x5_60 = x5 + 1 → wl_X4_over_34  post K66 n h_59 (kc - mc_56) (ks - ms_56) x0 x1 x2 x3 x4 x5_60))
def wp_X4_over (h0 : xH) (mc ms : Nat) (x0 : Nat) (x1 : Nat) (post : Nat → xH → Prop) : Prop := ∃ fs_1 : List Value, h0 x0 = some (.inr (4, fs_1)) ∧ ∃ v_1 : Nat, fs_1[3]? = some (.ref v_1) ∧ ∃ fs_5 : List Value, h0 x1 = some (.inr (4, fs_5)) ∧ ∃ v_5 : Nat, fs_5[3]? = some (.ref v_5) ∧ ∃ mc_8 ms_8 : Nat, mc_8 ≤ mc ∧ ms_8 ≤ ms ∧ wp_X5_commonDivisor h0 mc_8 ms_8 v_1 v_5 (fun (r_8 : Nat) (h_8 : xH) => ∃ fs_13 : List Value, h_8 x1 = some (.inr (4, fs_13)) ∧ ∃ v_13 : Nat, fs_13[3]? = some (.ref v_13) ∧ ∃ fs_17 : List Value, h_8 v_13 = some (.inr (5, fs_17)) ∧ ∃ mc_17 ms_17 : Nat, mc_17 ≤ (mc - mc_8) ∧ ms_17 ≤ (ms - ms_8) ∧ wp_X5_dividedBy h_8 mc_17 ms_17 v_13 r_8 (fun (r_17 : Nat) (h_17 : xH) => ∃ fs_22 : List Value, h_17 x0 = some (.inr (4, fs_22)) ∧ ∃ v_22 : Nat, fs_22[2]? = some (.ref v_22) ∧ ∃ (n_25 : Nat) (f_25 : Nat → Option Nat), h_17 v_22 = some (.inl (2, n_25, .inr (.inr (.inr (.inr f_25))))) ∧ ¬ ((nI n_25) : Int32) < 0 ∧ ∀ z_26 : Nat, ((nI n_25) : Int32).toNatClampNeg = z_26 → z_26 ≤ 60000000 ∧ 1 ≤ ((mc - mc_8) - mc_17) ∧ z_26 ≤ ((ms - ms_8) - ms_17) ∧ ∀ q_26 : Nat, x_fresh h_17 q_26 → ∀ h_26 : xH, h_26 = x_up h_17 q_26 (.inl (2, z_26, .inr (.inr (.inr (.inr (fun _ => none)))))) → ∃ n34 : Nat, wl_X4_over_34  post (fun (h : xH) (kc : Nat) (ks : Nat) (x0 : Nat) (x1 : Nat) (x2 : Nat) (x4 : Nat) => ∃ fs_67 : List Value, h x0 = some (.inr (4, fs_67)) ∧ ∃ v_67 : Nat, fs_67[3]? = some (.ref v_67) ∧ ∃ fs_71 : List Value, h v_67 = some (.inr (5, fs_71)) ∧ ∃ mc_71 ms_71 : Nat, mc_71 ≤ kc ∧ ms_71 ≤ ks ∧ wp_X5_dividedBy h mc_71 ms_71 v_67 x2 (fun (r_71 : Nat) (h_71 : xH) => ∃ fs_75 : List Value, h_71 x1 = some (.inr (4, fs_75)) ∧ ∃ v_75 : Nat, fs_75[2]? = some (.ref v_75) ∧ ∃ (n_79 : Nat) (f_79 : Nat → Option Nat), h_71 v_75 = some (.inl (2, n_79, .inr (.inr (.inr (.inr f_79))))) ∧ vp_in 0 n_79 ∧ ∃ y_79 : Nat, (f_79 (0 : Int32).toNatClampNeg) = some y_79 ∧ ∃ fs_80 : List Value, h_71 r_71 = some (.inr (5, fs_80)) ∧ ∃ mc_80 ms_80 : Nat, mc_80 ≤ (kc - mc_71) ∧ ms_80 ≤ (ks - ms_71) ∧ wp_X5_times h_71 mc_80 ms_80 r_71 y_79 (fun (r_80 : Nat) (h_80 : xH) => 1 ≤ ((kc - mc_71) - mc_80) ∧ 5 ≤ ((ks - ms_71) - ms_80) ∧ ∀ q_85 : Nat, x_fresh h_80 q_85 → ∀ h_85 : xH, h_85 = x_up h_80 q_85 (.inr (4, [.int 0, .int 0, .null, .null, .null])) → ∃ fs_90 : List Value, h_85 x0 = some (.inr (4, fs_90)) ∧ ∃ v_90 : Int32, fs_90[0]? = some (.int v_90) ∧ ∃ v_94 : Int32, fs_90[1]? = some (.int v_94) ∧ ∃ mc_101 ms_101 : Nat, mc_101 ≤ (((kc - mc_71) - mc_80) - 1) ∧ ms_101 ≤ (((ks - ms_71) - ms_80) - 5) ∧ wp_X4_init h_85 mc_101 ms_101 q_85 v_90 v_94 x4 r_80 (fun (h_101 : xH) => post q_85 h_101)))) n34 h_26 (((mc - mc_8) - mc_17) - 1) (((ms - ms_8) - ms_17) - z_26) x0 x1 r_8 r_17 q_26 0))
set_option maxHeartbeats 4000000 in
set_option maxRecDepth 100000 in
theorem ml_X4_over_34 (C : CX p s m args meth c G RX4 cX4_over 6 (some (.object "ExactFilter$Table"))) (h0 : xH) (mc ms : Nat) (post : Nat → xH → Prop) (K66 : xH → Nat → Nat → Nat → Nat → Nat → Nat → Prop)
    (hK66 : (∀ (h : xH) (kc : Nat) (ks : Nat) (x0 : Nat) (x1 : Nat) (x2 : Nat) (x4 : Nat) (H : Heap) (locs : List Loc) (ls : Array Slot) (nc ns : Nat), K66 h kc ks x0 x1 x2 x4 → x_I G (x_A h0 s.heap.size) s.heap h H locs → nc + kc ≤ mc → ns + ks ≤ ms → lv_has ls 6 [(0, .ref x0), (1, .ref x1), (2, .ref x2), (4, .ref x4)] → W p l e (rX4_over mc ms) s m args below meth c H locs nc ns (MQ below (x_Qr G h0 s.heap.size post) args s mc ms (x_A h0 s.heap.size)) (F0 m 66 ls []))) :
    ∀ (n : Nat) (h : xH) (kc : Nat) (ks : Nat) (x0 : Nat) (x1 : Nat) (x2 : Nat) (x3 : Nat) (x4 : Nat) (x5 : Int32) (H : Heap) (locs : List Loc) (ls : Array Slot) (nc ns : Nat), wl_X4_over_34  post K66 n h kc ks x0 x1 x2 x3 x4 x5 → x_I G (x_A h0 s.heap.size) s.heap h H locs → nc + kc ≤ mc → ns + ks ≤ ms → lv_has ls 6 [(0, .ref x0), (1, .ref x1), (2, .ref x2), (3, .ref x3), (4, .ref x4), (5, .int x5)] → W p l e (rX4_over mc ms) s m args below meth c H locs nc ns (MQ below (x_Qr G h0 s.heap.size post) args s mc ms (x_A h0 s.heap.size)) (F0 m 34 ls []) := by
  obtain ⟨hx, hb, hr, hml, hown, hg, hlocks, hK⟩ := id C
  intro n
  induction n with
  | zero => intro h kc ks x0 x1 x2 x3 x4 x5 H locs ls nc ns hw; exact absurd hw id
  | succ n ih =>
    intro h kc ks x0 x1 x2 x3 x4 x5 H locs ls nc ns hw hI hkc hks hl
    refine lv_iload hx hb dX4_over_34 (lv_at hl 5 rfl) ?_
    refine lv_aload_n hx hb dX4_over_36 rfl (lv_at hl 0 rfl) ?_
    obtain ⟨fs_37, he_37, hw⟩ := hw
    obtain ⟨v_37, hv_37, hw⟩ := hw
    refine x_get (ci := 4) (C := RX4) (T := TX4) (N := 5) hx hb hg ku_X4 hown hK hI he_37 rfl 2 (by decide) (hg _ kf_X4_16) (fun _ h9 => h9) hv_37 dX4_over_37 ?_
    obtain ⟨n_40, f_40, he_40, hw⟩ := hw
    refine x_alen hx hb hK hI he_40 rfl dX4_over_40 ?_
    refine W.eq (g2 := F0 m 41 ls (.int (nI n_40) :: .int x5 :: [])) rfl ?_
    refine lv_icmp_ge (tgt := 66) hx hb dX4_over_41 (by decide) (fun hc41 => ?_) (fun hc41 => ?_)
    · have hw := hw.1 hc41
      exact hK66 _ _ _ _ _ _ _ _ _ _ _ _ hw hI (by omega) (by omega) (lv_sub hl [0, 1, 2, 4] rfl)
    · have hw := hw.2 hc41
      refine lv_aload hx hb dX4_over_44 (lv_at hl 4 rfl) ?_
      refine lv_iload hx hb dX4_over_46 (lv_at hl 5 rfl) ?_
      refine lv_aload_n hx hb dX4_over_48 rfl (lv_at hl 0 rfl) ?_
      refine x_get (ci := 4) (C := RX4) (T := TX4) (N := 5) hx hb hg ku_X4 hown hK hI he_37 rfl 2 (by decide) (hg _ kf_X4_16) (fun _ h9 => h9) hv_37 dX4_over_49 ?_
      refine lv_iload hx hb dX4_over_52 (lv_at hl 5 rfl) ?_
      obtain ⟨hi54, hw⟩ := hw
      refine x_aald hx hb hK hI he_40 rfl hi54 dX4_over_54 ?_
      obtain ⟨y_54, ho54, hw⟩ := hw
      rw [ho54]
      refine W.eq (g2 := F0 m 55 ls (.ref y_54 :: .int x5 :: .ref x4 :: [])) rfl ?_
      refine lv_aload_n hx hb dX4_over_55 rfl (lv_at hl 3 rfl) ?_
      obtain ⟨fs_56, he_56, hw⟩ := hw
      obtain ⟨mc_56, ms_56, hkc1, hks1, hw⟩ := hw
      refine x_cr (va_runV (As := [.ref x3]) (rest := [.int x5, .ref x4]) ⟨hx, hb, hml, hown, hg⟩ (m_X5_times l G h mc_56 ms_56 y_54 x3 _ hw H.size) (cwV 1 hg (x_gV km_X4_50 ki_X5_times kz_X5_X5_times kn_X5 kk_X5_times) rfl rfl rfl (by decide +kernel) ⟨Nat.le_of_ble_eq_true rfl, Nat.le_of_ble_eq_true rfl⟩) ⟨x_blind, x_recv hI hK he_56 rfl rfl, x_pre hI hK⟩ rfl rfl hl.1 rfl (lv_room (Nat.le_of_ble_eq_true rfl)) dX4_over_56 ⟨show nc + mc_56 ≤ mc by omega, show ns + ms_56 ≤ ms by omega⟩) hI (fun r_56 h_56 H locs hw hI => ?_)
      obtain ⟨n_59, f_59, he_59, hw⟩ := hw
      obtain ⟨hi59, hw⟩ := hw
      obtain ⟨vs_59, hvs_59, hw⟩ := hw
      refine x_aast (r := (RX5, TX5, 3)) hx hb hK hI he_59 rfl hvs_59 rfl hi59 dX4_over_59 (fun H locs hI => ?_)
      obtain ⟨h_59, eh_59⟩ : ∃ z : xH, z = x_up h_56 x4 (.inl (2, n_59, .inr (.inr (.inr (.inr (va_up f_59 (x5 : Int32).toNatClampNeg (some r_56))))))) := ⟨_, rfl⟩
      rw [← eh_59] at hI
      have hw := hw h_59 eh_59
      have heh_59 : h_59 x4 = some (.inl (2, n_59, .inr (.inr (.inr (.inr (va_up f_59 (x5 : Int32).toNatClampNeg (some r_56))))))) := by rw [eh_59]; exact x_up_s
      obtain ⟨x5_60, ex5_60⟩ : ∃ y : Int32, y = x5 + 1 := ⟨_, rfl⟩
      have hw := hw x5_60 ex5_60
      refine lv_iinc (v := x5_60) (lv' := [(5, .int x5_60), (0, .ref x0), (1, .ref x1), (2, .ref x2), (3, .ref x3), (4, .ref x4)]) hx hb dX4_over_60 hl (k := 5) rfl (by rw [ex5_60]; rfl) (by decide) rfl (fun ls hl => ?_)
      refine lv_goto (tgt := 34) hx hb dX4_over_63 (by decide) ?_
      exact ih _ _ _ _ _ _ _ _ _ _ _ _ _ _ hw hI (by omega) (by omega) (lv_sub hl [1, 2, 3, 4, 5, 0] rfl)
set_option maxHeartbeats 4000000 in
set_option maxRecDepth 100000 in
theorem m_X4_over (l : Launch) (G : xG) (h0 : xH) (mc ms : Nat) (x0 : Nat) (x1 : Nat) (post : Nat → xH → Prop) (hw : wp_X4_over h0 mc ms x0 x1 post) (sz : Nat) : Met l yX4_over (wu yX4_over cX4_over 6 (some (.object "ExactFilter$Table"))) (rX4_over mc ms) (x_Pc G [.ref x0, .ref x1] h0 sz) (x_Qr G h0 sz post) mc ms (x_A h0 sz) := by
  refine Met.ofW (cc := cX4_over) (maxL := 6) (ret := (some (.object "ExactFilter$Table"))) (by decide) rfl ?_
  intro p e s m args below meth c s₁ B hml hv
  obtain ⟨rfl, hsz, hR, hK⟩ := hv
  subst hsz
  have C : CX p s m _ meth c G RX4 cX4_over 6 (some (.object "ExactFilter$Table")) := ⟨B.exec, B.bytes, B.returns, hml, findClass_of_methodNamed B.named, x_hg (atoms_spec (ws := wu yX4_over cX4_over 6 (some (.object "ExactFilter$Table"))) B.pre), B.notSynchronized, hK⟩
  obtain ⟨hx, hb, hr, hml, hown, hg, hlocks, hK⟩ := id C
  have hI : x_I G (x_A h0 s.heap.size) s.heap h0 s.heap [] := x_I.start hR
  have hkc : 0 + mc ≤ mc := by omega
  have hks : 0 + ms ≤ ms := by omega
  have hl := lv_entry ([.ref x0, .ref x1]) (n := 6) (Nat.le_of_ble_eq_true rfl)
  rw [lg_entry_eq]
  generalize (lg_sl ([.ref x0, .ref x1]) ++ List.replicate (6 - (lg_sl ([.ref x0, .ref x1])).length) Slot.unset).toArray = ls at hl ⊢
  have hl : lv_has ls 6 [(0, .ref x0), (1, .ref x1)] := hl
  unfold wp_X4_over at hw
  refine lv_aload_n hx hb dX4_over_0 rfl (lv_at hl 0 rfl) ?_
  obtain ⟨fs_1, he_1, hw⟩ := hw
  obtain ⟨v_1, hv_1, hw⟩ := hw
  refine x_get (ci := 4) (C := RX4) (T := TX4) (N := 5) hx hb hg ku_X4 hown hK hI he_1 rfl 3 (by decide) (hg _ kf_X4_20) (fun _ h9 => h9) hv_1 dX4_over_1 ?_
  refine lv_aload_n hx hb dX4_over_4 rfl (lv_at hl 1 rfl) ?_
  obtain ⟨fs_5, he_5, hw⟩ := hw
  obtain ⟨v_5, hv_5, hw⟩ := hw
  refine x_get (ci := 4) (C := RX4) (T := TX4) (N := 5) hx hb hg ku_X4 hown hK hI he_5 rfl 3 (by decide) (hg _ kf_X4_20) (fun _ h9 => h9) hv_5 dX4_over_5 ?_
  obtain ⟨mc_8, ms_8, hkc1, hks1, hw⟩ := hw
  refine x_cr (va_runS (As := [.ref v_1, .ref v_5]) (rest := []) ⟨hx, hb, hml, hown, hg⟩ (m_X5_commonDivisor l G h0 mc_8 ms_8 v_1 v_5 _ hw s.heap.size) (va_cwS 2 hg (x_gS km_X4_57 ks_X5_commonDivisor kn_X5 kk_X5_commonDivisor) rfl rfl rfl (by decide +kernel) ⟨Nat.le_of_ble_eq_true rfl, Nat.le_of_ble_eq_true rfl⟩) ⟨x_blind, x_pre hI hK⟩ rfl rfl hl.1 rfl (lv_room (Nat.le_of_ble_eq_true rfl)) dX4_over_8 ⟨show 0 + mc_8 ≤ mc by omega, show 0 + ms_8 ≤ ms by omega⟩) hI (fun r_8 h_8 H locs hw hI => ?_)
  refine lv_astore_n (lv' := [(2, .ref r_8), (0, .ref x0), (1, .ref x1)]) hx hb dX4_over_11 rfl hl (by decide) rfl (fun ls hl => ?_)
  refine lv_aload_n hx hb dX4_over_12 rfl (lv_at hl 2 rfl) ?_
  obtain ⟨fs_13, he_13, hw⟩ := hw
  obtain ⟨v_13, hv_13, hw⟩ := hw
  refine x_get (ci := 4) (C := RX4) (T := TX4) (N := 5) hx hb hg ku_X4 hown hK hI he_13 rfl 3 (by decide) (hg _ kf_X4_20) (fun _ h9 => h9) hv_13 dX4_over_13 ?_
  refine lv_aload_n hx hb dX4_over_16 rfl (lv_at hl 0 rfl) ?_
  obtain ⟨fs_17, he_17, hw⟩ := hw
  obtain ⟨mc_17, ms_17, hkc1, hks1, hw⟩ := hw
  refine x_cr (va_runV (As := [.ref r_8]) (rest := []) ⟨hx, hb, hml, hown, hg⟩ (m_X5_dividedBy l G h_8 mc_17 ms_17 v_13 r_8 _ hw H.size) (cwV 1 hg (x_gV km_X4_61 ki_X5_dividedBy kz_X5_X5_dividedBy kn_X5 kk_X5_dividedBy) rfl rfl rfl (by decide +kernel) ⟨Nat.le_of_ble_eq_true rfl, Nat.le_of_ble_eq_true rfl⟩) ⟨x_blind, x_recv hI hK he_17 rfl rfl, x_pre hI hK⟩ rfl rfl hl.1 rfl (lv_room (Nat.le_of_ble_eq_true rfl)) dX4_over_17 ⟨show 0 + mc_8 + mc_17 ≤ mc by omega, show 0 + ms_8 + ms_17 ≤ ms by omega⟩) hI (fun r_17 h_17 H locs hw hI => ?_)
  refine lv_astore_n (lv' := [(3, .ref r_17), (2, .ref r_8), (0, .ref x0), (1, .ref x1)]) hx hb dX4_over_20 rfl hl (by decide) rfl (fun ls hl => ?_)
  refine lv_aload_n hx hb dX4_over_21 rfl (lv_at hl 2 rfl) ?_
  obtain ⟨fs_22, he_22, hw⟩ := hw
  obtain ⟨v_22, hv_22, hw⟩ := hw
  refine x_get (ci := 4) (C := RX4) (T := TX4) (N := 5) hx hb hg ku_X4 hown hK hI he_22 rfl 2 (by decide) (hg _ kf_X4_16) (fun _ h9 => h9) hv_22 dX4_over_22 ?_
  obtain ⟨n_25, f_25, he_25, hw⟩ := hw
  refine x_alen hx hb hK hI he_25 rfl dX4_over_25 ?_
  refine W.eq (g2 := F0 m 26 ls (.int (nI n_25) :: [])) rfl ?_
  obtain ⟨hneg26, hw⟩ := hw
  obtain ⟨z_26, hz26⟩ : ∃ z : Nat, ((nI n_25) : Int32).toNatClampNeg = z := ⟨_, rfl⟩
  obtain ⟨hz226, hkc1, hks1, hw⟩ := hw z_26 hz26
  refine x_newq (t0 := 2) hx hb hown (hg _ kl_X4_30) hK.2.1 hK hI rfl hneg26 hz26 (by omega) (show 0 + mc_8 + mc_17 + 1 ≤ mc by omega) (show 0 + ms_8 + ms_17 + z_26 ≤ ms by omega) dX4_over_26 (fun q_26 H hfr26 hI => ?_)
  have hw := hw q_26 hfr26
  obtain ⟨h_26, eh_26⟩ : ∃ z : xH, z = x_up h_17 q_26 (.inl (2, z_26, .inr (.inr (.inr (.inr (fun _ => none)))))) := ⟨_, rfl⟩
  rw [← eh_26] at hI
  have hw := hw h_26 eh_26
  have heh_26 : h_26 q_26 = some (.inl (2, z_26, .inr (.inr (.inr (.inr (fun _ => none)))))) := by rw [eh_26]; exact x_up_s
  refine lv_astore (lv' := [(4, .ref q_26), (3, .ref r_17), (2, .ref r_8), (0, .ref x0), (1, .ref x1)]) hx hb dX4_over_29 hl (by decide) rfl (fun ls hl => ?_)
  refine lv_iconst (v := 0) hx hb dX4_over_31 (by decide) ?_
  refine lv_istore (lv' := [(5, .int 0), (4, .ref q_26), (3, .ref r_17), (2, .ref r_8), (0, .ref x0), (1, .ref x1)]) hx hb dX4_over_32 hl (by decide) rfl (fun ls hl => ?_)
  obtain ⟨n34, hw⟩ := hw
  refine ml_X4_over_34 C h0 mc ms post _ ?_ n34 _ _ _ _ _ _ _ _ _ _ _ _ _ _ hw hI (by omega) (by omega) (lv_sub hl [4, 5, 3, 2, 1, 0] rfl)
  · intro h kc ks x0 x1 x2 x4 H locs ls nc ns hw hI hkc hks hl
    refine lv_aload_n hx hb dX4_over_66 rfl (lv_at hl 0 rfl) ?_
    obtain ⟨fs_67, he_67, hw⟩ := hw
    obtain ⟨v_67, hv_67, hw⟩ := hw
    refine x_get (ci := 4) (C := RX4) (T := TX4) (N := 5) hx hb hg ku_X4 hown hK hI he_67 rfl 3 (by decide) (hg _ kf_X4_20) (fun _ h9 => h9) hv_67 dX4_over_67 ?_
    refine lv_aload_n hx hb dX4_over_70 rfl (lv_at hl 2 rfl) ?_
    obtain ⟨fs_71, he_71, hw⟩ := hw
    obtain ⟨mc_71, ms_71, hkc1, hks1, hw⟩ := hw
    refine x_cr (va_runV (As := [.ref x2]) (rest := []) ⟨hx, hb, hml, hown, hg⟩ (m_X5_dividedBy l G h mc_71 ms_71 v_67 x2 _ hw H.size) (cwV 1 hg (x_gV km_X4_61 ki_X5_dividedBy kz_X5_X5_dividedBy kn_X5 kk_X5_dividedBy) rfl rfl rfl (by decide +kernel) ⟨Nat.le_of_ble_eq_true rfl, Nat.le_of_ble_eq_true rfl⟩) ⟨x_blind, x_recv hI hK he_71 rfl rfl, x_pre hI hK⟩ rfl rfl hl.1 rfl (lv_room (Nat.le_of_ble_eq_true rfl)) dX4_over_71 ⟨show nc + mc_71 ≤ mc by omega, show ns + ms_71 ≤ ms by omega⟩) hI (fun r_71 h_71 H locs hw hI => ?_)
    refine lv_aload_n hx hb dX4_over_74 rfl (lv_at hl 1 rfl) ?_
    obtain ⟨fs_75, he_75, hw⟩ := hw
    obtain ⟨v_75, hv_75, hw⟩ := hw
    refine x_get (ci := 4) (C := RX4) (T := TX4) (N := 5) hx hb hg ku_X4 hown hK hI he_75 rfl 2 (by decide) (hg _ kf_X4_16) (fun _ h9 => h9) hv_75 dX4_over_75 ?_
    refine lv_iconst (v := 0) hx hb dX4_over_78 (by decide) ?_
    obtain ⟨n_79, f_79, he_79, hw⟩ := hw
    obtain ⟨hi79, hw⟩ := hw
    refine x_aald hx hb hK hI he_79 rfl hi79 dX4_over_79 ?_
    obtain ⟨y_79, ho79, hw⟩ := hw
    rw [ho79]
    refine W.eq (g2 := F0 m 80 ls (.ref y_79 :: .ref r_71 :: [])) rfl ?_
    obtain ⟨fs_80, he_80, hw⟩ := hw
    obtain ⟨mc_80, ms_80, hkc1, hks1, hw⟩ := hw
    refine x_cr (va_runV (As := [.ref y_79]) (rest := []) ⟨hx, hb, hml, hown, hg⟩ (m_X5_times l G h_71 mc_80 ms_80 r_71 y_79 _ hw H.size) (cwV 1 hg (x_gV km_X4_50 ki_X5_times kz_X5_X5_times kn_X5 kk_X5_times) rfl rfl rfl (by decide +kernel) ⟨Nat.le_of_ble_eq_true rfl, Nat.le_of_ble_eq_true rfl⟩) ⟨x_blind, x_recv hI hK he_80 rfl rfl, x_pre hI hK⟩ rfl rfl hl.1 rfl (lv_room (Nat.le_of_ble_eq_true rfl)) dX4_over_80 ⟨show nc + mc_71 + mc_80 ≤ mc by omega, show ns + ms_71 + ms_80 ≤ ms by omega⟩) hI (fun r_80 h_80 H locs hw hI => ?_)
    refine lv_astore (lv' := [(5, .ref r_80), (0, .ref x0), (1, .ref x1), (2, .ref x2), (4, .ref x4)]) hx hb dX4_over_83 hl (by decide) rfl (fun ls hl => ?_)
    obtain ⟨hkc1, hks1, hw⟩ := hw
    refine x_new (ci := 4) (fs := [.int 0, .int 0, .null, .null, .null]) (C := RX4) (T := TX4) (N := 5) hx hb hg ku_X4 tyX4 tyX4_ok hown (hg _ kl_X4_8) (hg _ kt_X4) (hg _ kn_X4) hK hI rfl (by decide +kernel) (show nc + mc_71 + mc_80 + 1 ≤ mc by omega) (show ns + ms_71 + ms_80 + 5 ≤ ms by omega) dX4_over_85 (fun q_85 H hfr85 hI => ?_)
    have hw := hw q_85 hfr85
    obtain ⟨h_85, eh_85⟩ : ∃ z : xH, z = x_up h_80 q_85 (.inr (4, [.int 0, .int 0, .null, .null, .null])) := ⟨_, rfl⟩
    rw [← eh_85] at hI
    have hw := hw h_85 eh_85
    have heh_85 : h_85 q_85 = some (.inr (4, [.int 0, .int 0, .null, .null, .null])) := by rw [eh_85]; exact x_up_s
    refine lv_dup hx hb dX4_over_88 rfl ?_
    refine lv_aload_n hx hb dX4_over_89 rfl (lv_at hl 1 rfl) ?_
    obtain ⟨fs_90, he_90, hw⟩ := hw
    obtain ⟨v_90, hv_90, hw⟩ := hw
    refine x_get (ci := 4) (C := RX4) (T := TX4) (N := 5) hx hb hg ku_X4 hown hK hI he_90 rfl 0 (by decide) (hg _ kf_X4_7) (fun _ h9 => h9) hv_90 dX4_over_90 ?_
    refine lv_aload_n hx hb dX4_over_93 rfl (lv_at hl 1 rfl) ?_
    obtain ⟨v_94, hv_94, hw⟩ := hw
    refine x_get (ci := 4) (C := RX4) (T := TX4) (N := 5) hx hb hg ku_X4 hown hK hI he_90 rfl 1 (by decide) (hg _ kf_X4_13) (fun _ h9 => h9) hv_94 dX4_over_94 ?_
    refine lv_aload hx hb dX4_over_97 (lv_at hl 4 rfl) ?_
    refine lv_aload hx hb dX4_over_99 (lv_at hl 0 rfl) ?_
    obtain ⟨mc_101, ms_101, hkc1, hks1, hw⟩ := hw
    refine x_cv (va_runI (As := [.int v_90, .int v_94, .ref x4, .ref r_80]) (rest := [.ref q_85]) ⟨hx, hb, hml, hown, hg⟩ (m_X4_init l G h_85 mc_101 ms_101 q_85 v_90 v_94 x4 r_80 _ hw H.size) (cwI 4 hg (x_gI kk_X4_init) rfl rfl rfl (hg _ kn_X4) (hg _ km_X4_36) (hg _ ki_X4_init) rfl (by decide +kernel) ⟨Nat.le_of_ble_eq_true rfl, Nat.le_of_ble_eq_true rfl⟩) ⟨x_blind, x_pre hI hK⟩ rfl rfl hl.1 rfl (lv_room (Nat.le_of_ble_eq_true rfl)) dX4_over_101 ⟨show nc + mc_71 + mc_80 + 1 + mc_101 ≤ mc by omega, show ns + ms_71 + ms_80 + 5 + ms_101 ≤ ms by omega⟩) hI (fun h_101 H locs hw hI => ?_)
    exact x_aret hx hb hr (by first | exact Or.inl ⟨_, rfl⟩ | exact Or.inr ⟨_, rfl⟩) hlocks hI hw (by omega) (by omega) dX4_over_104
-- ===== ExactFilter$Table.shortened
abbrev rX4_shortened (mc ms : Nat) : Room := { frames := 6, cells := mc, slots := ms, locals := 149 }
def wl_X4_shortened_7  (post : Nat → xH → Prop) (K33 : xH → Nat → Nat → Nat → Nat → Prop) : Nat → xH → Nat → Nat → Nat → Nat → Int32 → Prop
  | 0, _, _, _, _, _, _ => False
  | n + 1, h, kc, ks, x0, x1, x2 => ∃ fs_9 : List Value, h x0 = some (.inr (4, fs_9)) ∧ ∃ v_9 : Nat, fs_9[2]? = some (.ref v_9) ∧ ∃ (n_12 : Nat) (f_12 : Nat → Option Nat), h v_9 = some (.inl (2, n_12, .inr (.inr (.inr (.inr f_12))))) ∧ ((nI n_12) ≤ x2 → K33 h kc ks x0 x1) ∧ (¬ (nI n_12) ≤ x2 → vp_in x2 n_12 ∧ ∃ y_22 : Nat, (f_12 (x2 : Int32).toNatClampNeg) = some y_22 ∧ ∃ mc_23 ms_23 : Nat, mc_23 ≤ kc ∧ ms_23 ≤ ks ∧ wp_X5_commonDivisor h mc_23 ms_23 x1 y_22 (fun (r_23 : Nat) (h_23 : xH) => ∀ (x2_27 : Int32), x2_27 = x2 + 1 → wl_X4_shortened_7  post K33 n h_23 (kc - mc_23) (ks - ms_23) x0 r_23 x2_27))
def wl_X4_shortened_44  (post : Nat → xH → Prop) (K72 : xH → Nat → Nat → Nat → Nat → Nat → Prop) : Nat → xH → Nat → Nat → Nat → Nat → Nat → Int32 → Prop
  | 0, _, _, _, _, _, _, _ => False
  | n + 1, h, kc, ks, x0, x1, x2, x3 => ∃ fs_46 : List Value, h x0 = some (.inr (4, fs_46)) ∧ ∃ v_46 : Nat, fs_46[2]? = some (.ref v_46) ∧ ∃ (n_49 : Nat) (f_49 : Nat → Option Nat), h v_46 = some (.inl (2, n_49, .inr (.inr (.inr (.inr f_49))))) ∧ ((nI n_49) ≤ x3 → K72 h kc ks x0 x1 x2) ∧ (¬ (nI n_49) ≤ x3 → vp_in x3 n_49 ∧ ∃ y_60 : Nat, (f_49 (x3 : Int32).toNatClampNeg) = some y_60 ∧ ∃ fs_62 : List Value, h y_60 = some (.inr (5, fs_62)) ∧ ∃ mc_62 ms_62 : Nat, mc_62 ≤ kc ∧ ms_62 ≤ ks ∧ wp_X5_dividedBy h mc_62 ms_62 y_60 x1 (fun (r_62 : Nat) (h_62 : xH) => ∃ (n_65 : Nat) (f_65 : Nat → Option Nat), h_62 x2 = some (.inl (2, n_65, .inr (.inr (.inr (.inr f_65))))) ∧ vp_in x3 n_65 ∧ ∃ vs_65 : List Value, h_62 r_62 = some (.inr (5, vs_65)) ∧ ∀ h_65 : xH, h_65 = x_up h_62 x2 (.inl (2, n_65, .inr (.inr (.inr (.inr (va_up f_65 (x3 : Int32).toNatClampNeg (some r_62))))))) → ∀ (x3_66 : Int32), x3_66 = x3 + 1 → wl_X4_shortened_44  post K72 n h_65 (kc - mc_62) (ks - ms_62) x0 x1 x2 x3_66))
def wp_X4_shortened (h0 : xH) (mc ms : Nat) (x0 : Nat) (post : Nat → xH → Prop) : Prop := ∃ fs_1 : List Value, h0 x0 = some (.inr (4, fs_1)) ∧ ∃ v_1 : Nat, fs_1[3]? = some (.ref v_1) ∧ ∃ n7 : Nat, wl_X4_shortened_7  post (fun (h : xH) (kc : Nat) (ks : Nat) (x0 : Nat) (x1 : Nat) => ∃ fs_34 : List Value, h x0 = some (.inr (4, fs_34)) ∧ ∃ v_34 : Nat, fs_34[2]? = some (.ref v_34) ∧ ∃ (n_37 : Nat) (f_37 : Nat → Option Nat), h v_34 = some (.inl (2, n_37, .inr (.inr (.inr (.inr f_37))))) ∧ ¬ ((nI n_37) : Int32) < 0 ∧ ∀ z_38 : Nat, ((nI n_37) : Int32).toNatClampNeg = z_38 → z_38 ≤ 60000000 ∧ 1 ≤ kc ∧ z_38 ≤ ks ∧ ∀ q_38 : Nat, x_fresh h q_38 → ∀ h_38 : xH, h_38 = x_up h q_38 (.inl (2, z_38, .inr (.inr (.inr (.inr (fun _ => none)))))) → ∃ n44 : Nat, wl_X4_shortened_44  post (fun (h : xH) (kc : Nat) (ks : Nat) (x0 : Nat) (x1 : Nat) (x2 : Nat) => 1 ≤ kc ∧ 5 ≤ ks ∧ ∀ q_72 : Nat, x_fresh h q_72 → ∀ h_72 : xH, h_72 = x_up h q_72 (.inr (4, [.int 0, .int 0, .null, .null, .null])) → ∃ fs_77 : List Value, h_72 x0 = some (.inr (4, fs_77)) ∧ ∃ v_77 : Int32, fs_77[0]? = some (.int v_77) ∧ ∃ v_81 : Int32, fs_77[1]? = some (.int v_81) ∧ ∃ v_86 : Nat, fs_77[3]? = some (.ref v_86) ∧ ∃ fs_90 : List Value, h_72 v_86 = some (.inr (5, fs_90)) ∧ ∃ mc_90 ms_90 : Nat, mc_90 ≤ (kc - 1) ∧ ms_90 ≤ (ks - 5) ∧ wp_X5_dividedBy h_72 mc_90 ms_90 v_86 x1 (fun (r_90 : Nat) (h_90 : xH) => ∃ mc_93 ms_93 : Nat, mc_93 ≤ ((kc - 1) - mc_90) ∧ ms_93 ≤ ((ks - 5) - ms_90) ∧ wp_X4_init h_90 mc_93 ms_93 q_72 v_77 v_81 x2 r_90 (fun (h_93 : xH) => post q_72 h_93))) n44 h_38 (kc - 1) (ks - z_38) x0 x1 q_38 0) n7 h0 mc ms x0 v_1 0
set_option maxHeartbeats 4000000 in
set_option maxRecDepth 100000 in
theorem ml_X4_shortened_7 (C : CX p s m args meth c G RX4 cX4_shortened 4 (some (.object "ExactFilter$Table"))) (h0 : xH) (mc ms : Nat) (post : Nat → xH → Prop) (K33 : xH → Nat → Nat → Nat → Nat → Prop)
    (hK33 : (∀ (h : xH) (kc : Nat) (ks : Nat) (x0 : Nat) (x1 : Nat) (H : Heap) (locs : List Loc) (ls : Array Slot) (nc ns : Nat), K33 h kc ks x0 x1 → x_I G (x_A h0 s.heap.size) s.heap h H locs → nc + kc ≤ mc → ns + ks ≤ ms → lv_has ls 4 [(0, .ref x0), (1, .ref x1)] → W p l e (rX4_shortened mc ms) s m args below meth c H locs nc ns (MQ below (x_Qr G h0 s.heap.size post) args s mc ms (x_A h0 s.heap.size)) (F0 m 33 ls []))) :
    ∀ (n : Nat) (h : xH) (kc : Nat) (ks : Nat) (x0 : Nat) (x1 : Nat) (x2 : Int32) (H : Heap) (locs : List Loc) (ls : Array Slot) (nc ns : Nat), wl_X4_shortened_7  post K33 n h kc ks x0 x1 x2 → x_I G (x_A h0 s.heap.size) s.heap h H locs → nc + kc ≤ mc → ns + ks ≤ ms → lv_has ls 4 [(0, .ref x0), (1, .ref x1), (2, .int x2)] → W p l e (rX4_shortened mc ms) s m args below meth c H locs nc ns (MQ below (x_Qr G h0 s.heap.size post) args s mc ms (x_A h0 s.heap.size)) (F0 m 7 ls []) := by
  obtain ⟨hx, hb, hr, hml, hown, hg, hlocks, hK⟩ := id C
  intro n
  induction n with
  | zero => intro h kc ks x0 x1 x2 H locs ls nc ns hw; exact absurd hw id
  | succ n ih =>
    intro h kc ks x0 x1 x2 H locs ls nc ns hw hI hkc hks hl
    refine lv_iload_n hx hb dX4_shortened_7 rfl (lv_at hl 2 rfl) ?_
    refine lv_aload_n hx hb dX4_shortened_8 rfl (lv_at hl 0 rfl) ?_
    obtain ⟨fs_9, he_9, hw⟩ := hw
    obtain ⟨v_9, hv_9, hw⟩ := hw
    refine x_get (ci := 4) (C := RX4) (T := TX4) (N := 5) hx hb hg ku_X4 hown hK hI he_9 rfl 2 (by decide) (hg _ kf_X4_16) (fun _ h9 => h9) hv_9 dX4_shortened_9 ?_
    obtain ⟨n_12, f_12, he_12, hw⟩ := hw
    refine x_alen hx hb hK hI he_12 rfl dX4_shortened_12 ?_
    refine W.eq (g2 := F0 m 13 ls (.int (nI n_12) :: .int x2 :: [])) rfl ?_
    refine lv_icmp_ge (tgt := 33) hx hb dX4_shortened_13 (by decide) (fun hc13 => ?_) (fun hc13 => ?_)
    · have hw := hw.1 hc13
      exact hK33 _ _ _ _ _ _ _ _ _ _ hw hI (by omega) (by omega) (lv_sub hl [0, 1] rfl)
    · have hw := hw.2 hc13
      refine lv_aload_n hx hb dX4_shortened_16 rfl (lv_at hl 1 rfl) ?_
      refine lv_aload_n hx hb dX4_shortened_17 rfl (lv_at hl 0 rfl) ?_
      refine x_get (ci := 4) (C := RX4) (T := TX4) (N := 5) hx hb hg ku_X4 hown hK hI he_9 rfl 2 (by decide) (hg _ kf_X4_16) (fun _ h9 => h9) hv_9 dX4_shortened_18 ?_
      refine lv_iload_n hx hb dX4_shortened_21 rfl (lv_at hl 2 rfl) ?_
      obtain ⟨hi22, hw⟩ := hw
      refine x_aald hx hb hK hI he_12 rfl hi22 dX4_shortened_22 ?_
      obtain ⟨y_22, ho22, hw⟩ := hw
      rw [ho22]
      refine W.eq (g2 := F0 m 23 ls (.ref y_22 :: .ref x1 :: [])) rfl ?_
      obtain ⟨mc_23, ms_23, hkc1, hks1, hw⟩ := hw
      refine x_cr (va_runS (As := [.ref x1, .ref y_22]) (rest := []) ⟨hx, hb, hml, hown, hg⟩ (m_X5_commonDivisor l G h mc_23 ms_23 x1 y_22 _ hw H.size) (va_cwS 2 hg (x_gS km_X4_57 ks_X5_commonDivisor kn_X5 kk_X5_commonDivisor) rfl rfl rfl (by decide +kernel) ⟨Nat.le_of_ble_eq_true rfl, Nat.le_of_ble_eq_true rfl⟩) ⟨x_blind, x_pre hI hK⟩ rfl rfl hl.1 rfl (lv_room (Nat.le_of_ble_eq_true rfl)) dX4_shortened_23 ⟨show nc + mc_23 ≤ mc by omega, show ns + ms_23 ≤ ms by omega⟩) hI (fun r_23 h_23 H locs hw hI => ?_)
      refine lv_astore_n (lv' := [(1, .ref r_23), (0, .ref x0), (2, .int x2)]) hx hb dX4_shortened_26 rfl hl (by decide) rfl (fun ls hl => ?_)
      obtain ⟨x2_27, ex2_27⟩ : ∃ y : Int32, y = x2 + 1 := ⟨_, rfl⟩
      have hw := hw x2_27 ex2_27
      refine lv_iinc (v := x2_27) (lv' := [(2, .int x2_27), (1, .ref r_23), (0, .ref x0)]) hx hb dX4_shortened_27 hl (k := 2) rfl (by rw [ex2_27]; rfl) (by decide) rfl (fun ls hl => ?_)
      refine lv_goto (tgt := 7) hx hb dX4_shortened_30 (by decide) ?_
      exact ih _ _ _ _ _ _ _ _ _ _ _ hw hI (by omega) (by omega) (lv_sub hl [2, 1, 0] rfl)
set_option maxHeartbeats 4000000 in
set_option maxRecDepth 100000 in
theorem ml_X4_shortened_44 (C : CX p s m args meth c G RX4 cX4_shortened 4 (some (.object "ExactFilter$Table"))) (h0 : xH) (mc ms : Nat) (post : Nat → xH → Prop) (K72 : xH → Nat → Nat → Nat → Nat → Nat → Prop)
    (hK72 : (∀ (h : xH) (kc : Nat) (ks : Nat) (x0 : Nat) (x1 : Nat) (x2 : Nat) (H : Heap) (locs : List Loc) (ls : Array Slot) (nc ns : Nat), K72 h kc ks x0 x1 x2 → x_I G (x_A h0 s.heap.size) s.heap h H locs → nc + kc ≤ mc → ns + ks ≤ ms → lv_has ls 4 [(0, .ref x0), (1, .ref x1), (2, .ref x2)] → W p l e (rX4_shortened mc ms) s m args below meth c H locs nc ns (MQ below (x_Qr G h0 s.heap.size post) args s mc ms (x_A h0 s.heap.size)) (F0 m 72 ls []))) :
    ∀ (n : Nat) (h : xH) (kc : Nat) (ks : Nat) (x0 : Nat) (x1 : Nat) (x2 : Nat) (x3 : Int32) (H : Heap) (locs : List Loc) (ls : Array Slot) (nc ns : Nat), wl_X4_shortened_44  post K72 n h kc ks x0 x1 x2 x3 → x_I G (x_A h0 s.heap.size) s.heap h H locs → nc + kc ≤ mc → ns + ks ≤ ms → lv_has ls 4 [(0, .ref x0), (1, .ref x1), (2, .ref x2), (3, .int x3)] → W p l e (rX4_shortened mc ms) s m args below meth c H locs nc ns (MQ below (x_Qr G h0 s.heap.size post) args s mc ms (x_A h0 s.heap.size)) (F0 m 44 ls []) := by
  obtain ⟨hx, hb, hr, hml, hown, hg, hlocks, hK⟩ := id C
  intro n
  induction n with
  | zero => intro h kc ks x0 x1 x2 x3 H locs ls nc ns hw; exact absurd hw id
  | succ n ih =>
    intro h kc ks x0 x1 x2 x3 H locs ls nc ns hw hI hkc hks hl
    refine lv_iload_n hx hb dX4_shortened_44 rfl (lv_at hl 3 rfl) ?_
    refine lv_aload_n hx hb dX4_shortened_45 rfl (lv_at hl 0 rfl) ?_
    obtain ⟨fs_46, he_46, hw⟩ := hw
    obtain ⟨v_46, hv_46, hw⟩ := hw
    refine x_get (ci := 4) (C := RX4) (T := TX4) (N := 5) hx hb hg ku_X4 hown hK hI he_46 rfl 2 (by decide) (hg _ kf_X4_16) (fun _ h9 => h9) hv_46 dX4_shortened_46 ?_
    obtain ⟨n_49, f_49, he_49, hw⟩ := hw
    refine x_alen hx hb hK hI he_49 rfl dX4_shortened_49 ?_
    refine W.eq (g2 := F0 m 50 ls (.int (nI n_49) :: .int x3 :: [])) rfl ?_
    refine lv_icmp_ge (tgt := 72) hx hb dX4_shortened_50 (by decide) (fun hc50 => ?_) (fun hc50 => ?_)
    · have hw := hw.1 hc50
      exact hK72 _ _ _ _ _ _ _ _ _ _ _ hw hI (by omega) (by omega) (lv_sub hl [0, 1, 2] rfl)
    · have hw := hw.2 hc50
      refine lv_aload_n hx hb dX4_shortened_53 rfl (lv_at hl 2 rfl) ?_
      refine lv_iload_n hx hb dX4_shortened_54 rfl (lv_at hl 3 rfl) ?_
      refine lv_aload_n hx hb dX4_shortened_55 rfl (lv_at hl 0 rfl) ?_
      refine x_get (ci := 4) (C := RX4) (T := TX4) (N := 5) hx hb hg ku_X4 hown hK hI he_46 rfl 2 (by decide) (hg _ kf_X4_16) (fun _ h9 => h9) hv_46 dX4_shortened_56 ?_
      refine lv_iload_n hx hb dX4_shortened_59 rfl (lv_at hl 3 rfl) ?_
      obtain ⟨hi60, hw⟩ := hw
      refine x_aald hx hb hK hI he_49 rfl hi60 dX4_shortened_60 ?_
      obtain ⟨y_60, ho60, hw⟩ := hw
      rw [ho60]
      refine W.eq (g2 := F0 m 61 ls (.ref y_60 :: .int x3 :: .ref x2 :: [])) rfl ?_
      refine lv_aload_n hx hb dX4_shortened_61 rfl (lv_at hl 1 rfl) ?_
      obtain ⟨fs_62, he_62, hw⟩ := hw
      obtain ⟨mc_62, ms_62, hkc1, hks1, hw⟩ := hw
      refine x_cr (va_runV (As := [.ref x1]) (rest := [.int x3, .ref x2]) ⟨hx, hb, hml, hown, hg⟩ (m_X5_dividedBy l G h mc_62 ms_62 y_60 x1 _ hw H.size) (cwV 1 hg (x_gV km_X4_61 ki_X5_dividedBy kz_X5_X5_dividedBy kn_X5 kk_X5_dividedBy) rfl rfl rfl (by decide +kernel) ⟨Nat.le_of_ble_eq_true rfl, Nat.le_of_ble_eq_true rfl⟩) ⟨x_blind, x_recv hI hK he_62 rfl rfl, x_pre hI hK⟩ rfl rfl hl.1 rfl (lv_room (Nat.le_of_ble_eq_true rfl)) dX4_shortened_62 ⟨show nc + mc_62 ≤ mc by omega, show ns + ms_62 ≤ ms by omega⟩) hI (fun r_62 h_62 H locs hw hI => ?_)
      obtain ⟨n_65, f_65, he_65, hw⟩ := hw
      obtain ⟨hi65, hw⟩ := hw
      obtain ⟨vs_65, hvs_65, hw⟩ := hw
      refine x_aast (r := (RX5, TX5, 3)) hx hb hK hI he_65 rfl hvs_65 rfl hi65 dX4_shortened_65 (fun H locs hI => ?_)
      obtain ⟨h_65, eh_65⟩ : ∃ z : xH, z = x_up h_62 x2 (.inl (2, n_65, .inr (.inr (.inr (.inr (va_up f_65 (x3 : Int32).toNatClampNeg (some r_62))))))) := ⟨_, rfl⟩
      rw [← eh_65] at hI
      have hw := hw h_65 eh_65
      have heh_65 : h_65 x2 = some (.inl (2, n_65, .inr (.inr (.inr (.inr (va_up f_65 (x3 : Int32).toNatClampNeg (some r_62))))))) := by rw [eh_65]; exact x_up_s
      obtain ⟨x3_66, ex3_66⟩ : ∃ y : Int32, y = x3 + 1 := ⟨_, rfl⟩
      have hw := hw x3_66 ex3_66
      refine lv_iinc (v := x3_66) (lv' := [(3, .int x3_66), (0, .ref x0), (1, .ref x1), (2, .ref x2)]) hx hb dX4_shortened_66 hl (k := 3) rfl (by rw [ex3_66]; rfl) (by decide) rfl (fun ls hl => ?_)
      refine lv_goto (tgt := 44) hx hb dX4_shortened_69 (by decide) ?_
      exact ih _ _ _ _ _ _ _ _ _ _ _ _ hw hI (by omega) (by omega) (lv_sub hl [1, 2, 3, 0] rfl)
set_option maxHeartbeats 4000000 in
set_option maxRecDepth 100000 in
theorem m_X4_shortened (l : Launch) (G : xG) (h0 : xH) (mc ms : Nat) (x0 : Nat) (post : Nat → xH → Prop) (hw : wp_X4_shortened h0 mc ms x0 post) (sz : Nat) : Met l yX4_shortened (wu yX4_shortened cX4_shortened 4 (some (.object "ExactFilter$Table"))) (rX4_shortened mc ms) (x_Pc G [.ref x0] h0 sz) (x_Qr G h0 sz post) mc ms (x_A h0 sz) := by
  refine Met.ofW (cc := cX4_shortened) (maxL := 4) (ret := (some (.object "ExactFilter$Table"))) (by decide) rfl ?_
  intro p e s m args below meth c s₁ B hml hv
  obtain ⟨rfl, hsz, hR, hK⟩ := hv
  subst hsz
  have C : CX p s m _ meth c G RX4 cX4_shortened 4 (some (.object "ExactFilter$Table")) := ⟨B.exec, B.bytes, B.returns, hml, findClass_of_methodNamed B.named, x_hg (atoms_spec (ws := wu yX4_shortened cX4_shortened 4 (some (.object "ExactFilter$Table"))) B.pre), B.notSynchronized, hK⟩
  obtain ⟨hx, hb, hr, hml, hown, hg, hlocks, hK⟩ := id C
  have hI : x_I G (x_A h0 s.heap.size) s.heap h0 s.heap [] := x_I.start hR
  have hkc : 0 + mc ≤ mc := by omega
  have hks : 0 + ms ≤ ms := by omega
  have hl := lv_entry ([.ref x0]) (n := 4) (Nat.le_of_ble_eq_true rfl)
  rw [lg_entry_eq]
  generalize (lg_sl ([.ref x0]) ++ List.replicate (4 - (lg_sl ([.ref x0])).length) Slot.unset).toArray = ls at hl ⊢
  have hl : lv_has ls 4 [(0, .ref x0)] := hl
  unfold wp_X4_shortened at hw
  refine lv_aload_n hx hb dX4_shortened_0 rfl (lv_at hl 0 rfl) ?_
  obtain ⟨fs_1, he_1, hw⟩ := hw
  obtain ⟨v_1, hv_1, hw⟩ := hw
  refine x_get (ci := 4) (C := RX4) (T := TX4) (N := 5) hx hb hg ku_X4 hown hK hI he_1 rfl 3 (by decide) (hg _ kf_X4_20) (fun _ h9 => h9) hv_1 dX4_shortened_1 ?_
  refine lv_astore_n (lv' := [(1, .ref v_1), (0, .ref x0)]) hx hb dX4_shortened_4 rfl hl (by decide) rfl (fun ls hl => ?_)
  refine lv_iconst (v := 0) hx hb dX4_shortened_5 (by decide) ?_
  refine lv_istore_n (lv' := [(2, .int 0), (1, .ref v_1), (0, .ref x0)]) hx hb dX4_shortened_6 rfl hl (by decide) rfl (fun ls hl => ?_)
  obtain ⟨n7, hw⟩ := hw
  refine ml_X4_shortened_7 C h0 mc ms post _ ?_ n7 _ _ _ _ _ _ _ _ _ _ _ hw hI (by omega) (by omega) (lv_sub hl [2, 1, 0] rfl)
  · intro h kc ks x0 x1 H locs ls nc ns hw hI hkc hks hl
    refine lv_aload_n hx hb dX4_shortened_33 rfl (lv_at hl 0 rfl) ?_
    obtain ⟨fs_34, he_34, hw⟩ := hw
    obtain ⟨v_34, hv_34, hw⟩ := hw
    refine x_get (ci := 4) (C := RX4) (T := TX4) (N := 5) hx hb hg ku_X4 hown hK hI he_34 rfl 2 (by decide) (hg _ kf_X4_16) (fun _ h9 => h9) hv_34 dX4_shortened_34 ?_
    obtain ⟨n_37, f_37, he_37, hw⟩ := hw
    refine x_alen hx hb hK hI he_37 rfl dX4_shortened_37 ?_
    refine W.eq (g2 := F0 m 38 ls (.int (nI n_37) :: [])) rfl ?_
    obtain ⟨hneg38, hw⟩ := hw
    obtain ⟨z_38, hz38⟩ : ∃ z : Nat, ((nI n_37) : Int32).toNatClampNeg = z := ⟨_, rfl⟩
    obtain ⟨hz238, hkc1, hks1, hw⟩ := hw z_38 hz38
    refine x_newq (t0 := 2) hx hb hown (hg _ kl_X4_30) hK.2.1 hK hI rfl hneg38 hz38 (by omega) (show nc + 1 ≤ mc by omega) (show ns + z_38 ≤ ms by omega) dX4_shortened_38 (fun q_38 H hfr38 hI => ?_)
    have hw := hw q_38 hfr38
    obtain ⟨h_38, eh_38⟩ : ∃ z : xH, z = x_up h q_38 (.inl (2, z_38, .inr (.inr (.inr (.inr (fun _ => none)))))) := ⟨_, rfl⟩
    rw [← eh_38] at hI
    have hw := hw h_38 eh_38
    have heh_38 : h_38 q_38 = some (.inl (2, z_38, .inr (.inr (.inr (.inr (fun _ => none)))))) := by rw [eh_38]; exact x_up_s
    refine lv_astore_n (lv' := [(2, .ref q_38), (0, .ref x0), (1, .ref x1)]) hx hb dX4_shortened_41 rfl hl (by decide) rfl (fun ls hl => ?_)
    refine lv_iconst (v := 0) hx hb dX4_shortened_42 (by decide) ?_
    refine lv_istore_n (lv' := [(3, .int 0), (2, .ref q_38), (0, .ref x0), (1, .ref x1)]) hx hb dX4_shortened_43 rfl hl (by decide) rfl (fun ls hl => ?_)
    obtain ⟨n44, hw⟩ := hw
    refine ml_X4_shortened_44 C h0 mc ms post _ ?_ n44 _ _ _ _ _ _ _ _ _ _ _ _ hw hI (by omega) (by omega) (lv_sub hl [2, 3, 1, 0] rfl)
    · intro h kc ks x0 x1 x2 H locs ls nc ns hw hI hkc hks hl
      obtain ⟨hkc1, hks1, hw⟩ := hw
      refine x_new (ci := 4) (fs := [.int 0, .int 0, .null, .null, .null]) (C := RX4) (T := TX4) (N := 5) hx hb hg ku_X4 tyX4 tyX4_ok hown (hg _ kl_X4_8) (hg _ kt_X4) (hg _ kn_X4) hK hI rfl (by decide +kernel) (show nc + 1 ≤ mc by omega) (show ns + 5 ≤ ms by omega) dX4_shortened_72 (fun q_72 H hfr72 hI => ?_)
      have hw := hw q_72 hfr72
      obtain ⟨h_72, eh_72⟩ : ∃ z : xH, z = x_up h q_72 (.inr (4, [.int 0, .int 0, .null, .null, .null])) := ⟨_, rfl⟩
      rw [← eh_72] at hI
      have hw := hw h_72 eh_72
      have heh_72 : h_72 q_72 = some (.inr (4, [.int 0, .int 0, .null, .null, .null])) := by rw [eh_72]; exact x_up_s
      refine lv_dup hx hb dX4_shortened_75 rfl ?_
      refine lv_aload_n hx hb dX4_shortened_76 rfl (lv_at hl 0 rfl) ?_
      obtain ⟨fs_77, he_77, hw⟩ := hw
      obtain ⟨v_77, hv_77, hw⟩ := hw
      refine x_get (ci := 4) (C := RX4) (T := TX4) (N := 5) hx hb hg ku_X4 hown hK hI he_77 rfl 0 (by decide) (hg _ kf_X4_7) (fun _ h9 => h9) hv_77 dX4_shortened_77 ?_
      refine lv_aload_n hx hb dX4_shortened_80 rfl (lv_at hl 0 rfl) ?_
      obtain ⟨v_81, hv_81, hw⟩ := hw
      refine x_get (ci := 4) (C := RX4) (T := TX4) (N := 5) hx hb hg ku_X4 hown hK hI he_77 rfl 1 (by decide) (hg _ kf_X4_13) (fun _ h9 => h9) hv_81 dX4_shortened_81 ?_
      refine lv_aload_n hx hb dX4_shortened_84 rfl (lv_at hl 2 rfl) ?_
      refine lv_aload_n hx hb dX4_shortened_85 rfl (lv_at hl 0 rfl) ?_
      obtain ⟨v_86, hv_86, hw⟩ := hw
      refine x_get (ci := 4) (C := RX4) (T := TX4) (N := 5) hx hb hg ku_X4 hown hK hI he_77 rfl 3 (by decide) (hg _ kf_X4_20) (fun _ h9 => h9) hv_86 dX4_shortened_86 ?_
      refine lv_aload_n hx hb dX4_shortened_89 rfl (lv_at hl 1 rfl) ?_
      obtain ⟨fs_90, he_90, hw⟩ := hw
      obtain ⟨mc_90, ms_90, hkc1, hks1, hw⟩ := hw
      refine x_cr (va_runV (As := [.ref x1]) (rest := [.ref x2, .int v_81, .int v_77, .ref q_72, .ref q_72]) ⟨hx, hb, hml, hown, hg⟩ (m_X5_dividedBy l G h_72 mc_90 ms_90 v_86 x1 _ hw H.size) (cwV 1 hg (x_gV km_X4_61 ki_X5_dividedBy kz_X5_X5_dividedBy kn_X5 kk_X5_dividedBy) rfl rfl rfl (by decide +kernel) ⟨Nat.le_of_ble_eq_true rfl, Nat.le_of_ble_eq_true rfl⟩) ⟨x_blind, x_recv hI hK he_90 rfl rfl, x_pre hI hK⟩ rfl rfl hl.1 rfl (lv_room (Nat.le_of_ble_eq_true rfl)) dX4_shortened_90 ⟨show nc + 1 + mc_90 ≤ mc by omega, show ns + 5 + ms_90 ≤ ms by omega⟩) hI (fun r_90 h_90 H locs hw hI => ?_)
      obtain ⟨mc_93, ms_93, hkc1, hks1, hw⟩ := hw
      refine x_cv (va_runI (As := [.int v_77, .int v_81, .ref x2, .ref r_90]) (rest := [.ref q_72]) ⟨hx, hb, hml, hown, hg⟩ (m_X4_init l G h_90 mc_93 ms_93 q_72 v_77 v_81 x2 r_90 _ hw H.size) (cwI 4 hg (x_gI kk_X4_init) rfl rfl rfl (hg _ kn_X4) (hg _ km_X4_36) (hg _ ki_X4_init) rfl (by decide +kernel) ⟨Nat.le_of_ble_eq_true rfl, Nat.le_of_ble_eq_true rfl⟩) ⟨x_blind, x_pre hI hK⟩ rfl rfl hl.1 rfl (lv_room (Nat.le_of_ble_eq_true rfl)) dX4_shortened_93 ⟨show nc + 1 + mc_90 + mc_93 ≤ mc by omega, show ns + 5 + ms_90 + ms_93 ≤ ms by omega⟩) hI (fun h_93 H locs hw hI => ?_)
      exact x_aret hx hb hr (by first | exact Or.inl ⟨_, rfl⟩ | exact Or.inr ⟨_, rfl⟩) hlocks hI hw (by omega) (by omega) dX4_shortened_96
-- ===== ExactFilter$Part.init
abbrev rX2_init (mc ms : Nat) : Room := { frames := 1, cells := mc, slots := ms, locals := 23 }
def wp_X2_init (h0 : xH) (mc ms : Nat) (x0 : Nat) (x1 : Int32) (x2 : Int32) (post : xH → Prop) : Prop := ∃ fs_6 : List Value, h0 x0 = some (.inr (2, fs_6)) ∧ 0 < (fs_6 : List Value).length ∧ ∀ h_6 : xH, h_6 = x_up h0 x0 (.inr (2, (fs_6 : List Value).set 0 (.int x1))) → 1 < ((fs_6 : List Value).set 0 (.int x1) : List Value).length ∧ ∀ h_11 : xH, h_11 = x_up h_6 x0 (.inr (2, ((fs_6 : List Value).set 0 (.int x1) : List Value).set 1 (.int x2))) → ¬ ((x1 * x2) : Int32) < 0 ∧ ∀ z_18 : Nat, ((x1 * x2) : Int32).toNatClampNeg = z_18 → z_18 ≤ 60000000 ∧ 1 ≤ mc ∧ z_18 ≤ ms ∧ ∀ q_18 : Nat, x_fresh h_11 q_18 → ∀ h_18 : xH, h_18 = x_up h_11 q_18 (.inl (0, z_18, .inl (fun _ => 0))) → ∃ fs_20 : List Value, h_18 x0 = some (.inr (2, fs_20)) ∧ 2 < (fs_20 : List Value).length ∧ ∀ h_20 : xH, h_20 = x_up h_18 x0 (.inr (2, (fs_20 : List Value).set 2 (.ref q_18))) → ¬ ((x1 * x2) : Int32) < 0 ∧ ∀ z_27 : Nat, ((x1 * x2) : Int32).toNatClampNeg = z_27 → z_27 ≤ 60000000 ∧ 1 ≤ (mc - 1) ∧ z_27 ≤ (ms - z_18) ∧ ∀ q_27 : Nat, x_fresh h_20 q_27 → ∀ h_27 : xH, h_27 = x_up h_20 q_27 (.inl (0, z_27, .inl (fun _ => 0))) → ∃ fs_29 : List Value, h_27 x0 = some (.inr (2, fs_29)) ∧ 3 < (fs_29 : List Value).length ∧ ∀ h_29 : xH, h_29 = x_up h_27 x0 (.inr (2, (fs_29 : List Value).set 3 (.ref q_27))) → ∃ v_33 : Nat, ((fs_29 : List Value).set 3 (.ref q_27) : List Value)[3]? = some (.ref v_33) ∧ wp_J7_fill h_29  v_33 1 (fun (h_37 : xH) => post h_37)
set_option maxHeartbeats 4000000 in
set_option maxRecDepth 100000 in
theorem m_X2_init (l : Launch) (G : xG) (h0 : xH) (mc ms : Nat) (x0 : Nat) (x1 : Int32) (x2 : Int32) (post : xH → Prop) (hw : wp_X2_init h0 mc ms x0 x1 x2 post) (sz : Nat) : Met l yX2_init (wu yX2_init cX2_init 3 none) (rX2_init mc ms) (x_Pc G [.ref x0, .int x1, .int x2] h0 sz) (x_Qv G h0 sz post) mc ms (x_A h0 sz) := by
  refine Met.ofW (cc := cX2_init) (maxL := 3) (ret := none) (by decide) rfl ?_
  intro p e s m args below meth c s₁ B hml hv
  obtain ⟨rfl, hsz, hR, hK⟩ := hv
  subst hsz
  have C : CX p s m _ meth c G RX2 cX2_init 3 none := ⟨B.exec, B.bytes, B.returns, hml, findClass_of_methodNamed B.named, x_hg (atoms_spec (ws := wu yX2_init cX2_init 3 none) B.pre), B.notSynchronized, hK⟩
  obtain ⟨hx, hb, hr, hml, hown, hg, hlocks, hK⟩ := id C
  have hin : meth.name = "<init>" := (name_of_methodNamed B.named B.method).1
  have hI : x_I G (x_A h0 s.heap.size) s.heap h0 s.heap [] := x_I.start hR
  have hkc : 0 + mc ≤ mc := by omega
  have hks : 0 + ms ≤ ms := by omega
  have hl := lv_entry ([.ref x0, .int x1, .int x2]) (n := 3) (Nat.le_of_ble_eq_true rfl)
  rw [lg_entry_eq]
  generalize (lg_sl ([.ref x0, .int x1, .int x2]) ++ List.replicate (3 - (lg_sl ([.ref x0, .int x1, .int x2])).length) Slot.unset).toArray = ls at hl ⊢
  have hl : lv_has ls 3 [(0, .ref x0), (1, .int x1), (2, .int x2)] := hl
  unfold wp_X2_init at hw
  refine lv_aload_n hx hb dX2_init_0 rfl (lv_at hl 0 rfl) ?_
  refine W.objInit hx hb hown (hg _ km_X2_1) (hg _ ki_java_lang_Object__init____V) (hg _ kk_java_lang_Object__init____V) rfl (by rw [hml]; exact hl.1) rfl dX2_init_1 (Nat.le_of_ble_eq_true rfl) (Nat.le_of_ble_eq_true rfl) ?_
  refine W.eq (g2 := F0 m 4 ls []) rfl ?_
  refine lv_aload_n hx hb dX2_init_4 rfl (lv_at hl 0 rfl) ?_
  refine lv_iload_n hx hb dX2_init_5 rfl (lv_at hl 1 rfl) ?_
  obtain ⟨fs_6, he_6, hw⟩ := hw
  obtain ⟨hlen6, hw⟩ := hw
  refine x_putF (ci := 2) (v := .int x1) (ty := .int) (C := RX2) (T := TX2) (N := 4) hx hb hg ku_X2 tyX2 tyX2_ok nmX2 hown hK hI he_6 rfl 0 (by decide) (hg _ kf_X2_7) (fun _ h9 => h9) rfl hin rfl (by decide +kernel) rfl rfl hlen6 dX2_init_6 (fun H locs hI => ?_)
  have hI : x_I G (x_A h0 s.heap.size) s.heap (x_up h0 x0 (.inr (2, (fs_6 : List Value).set 0 (.int x1)))) H locs := hI
  obtain ⟨h_6, eh_6⟩ : ∃ z : xH, z = x_up h0 x0 (.inr (2, (fs_6 : List Value).set 0 (.int x1))) := ⟨_, rfl⟩
  rw [← eh_6] at hI
  have hw := hw h_6 eh_6
  have heh_6 : h_6 x0 = some (.inr (2, (fs_6 : List Value).set 0 (.int x1))) := by rw [eh_6]; exact x_up_s
  refine lv_aload_n hx hb dX2_init_9 rfl (lv_at hl 0 rfl) ?_
  refine lv_iload_n hx hb dX2_init_10 rfl (lv_at hl 2 rfl) ?_
  obtain ⟨hlen11, hw⟩ := hw
  refine x_putF (ci := 2) (v := .int x2) (ty := .int) (C := RX2) (T := TX2) (N := 4) hx hb hg ku_X2 tyX2 tyX2_ok nmX2 hown hK hI heh_6 rfl 1 (by decide) (hg _ kf_X2_13) (fun _ h9 => h9) rfl hin rfl (by decide +kernel) rfl rfl hlen11 dX2_init_11 (fun H locs hI => ?_)
  have hI : x_I G (x_A h0 s.heap.size) s.heap (x_up h_6 x0 (.inr (2, ((fs_6 : List Value).set 0 (.int x1) : List Value).set 1 (.int x2)))) H locs := hI
  obtain ⟨h_11, eh_11⟩ : ∃ z : xH, z = x_up h_6 x0 (.inr (2, ((fs_6 : List Value).set 0 (.int x1) : List Value).set 1 (.int x2))) := ⟨_, rfl⟩
  rw [← eh_11] at hI
  have hw := hw h_11 eh_11
  have heh_11 : h_11 x0 = some (.inr (2, ((fs_6 : List Value).set 0 (.int x1) : List Value).set 1 (.int x2))) := by rw [eh_11]; exact x_up_s
  refine lv_aload_n hx hb dX2_init_14 rfl (lv_at hl 0 rfl) ?_
  refine lv_iload_n hx hb dX2_init_15 rfl (lv_at hl 1 rfl) ?_
  refine lv_iload_n hx hb dX2_init_16 rfl (lv_at hl 2 rfl) ?_
  refine lv_imul hx hb dX2_init_17 ?_
  obtain ⟨hneg18, hw⟩ := hw
  obtain ⟨z_18, hz18⟩ : ∃ z : Nat, ((x1 * x2) : Int32).toNatClampNeg = z := ⟨_, rfl⟩
  obtain ⟨hz218, hkc1, hks1, hw⟩ := hw z_18 hz18
  refine x_newi hx hb (hg _ ka_int) hK hI hneg18 hz18 (by omega) (show 0 + 1 ≤ mc by omega) (show 0 + z_18 ≤ ms by omega) dX2_init_18 (fun q_18 H hfr18 hI => ?_)
  have hw := hw q_18 hfr18
  obtain ⟨h_18, eh_18⟩ : ∃ z : xH, z = x_up h_11 q_18 (.inl (0, z_18, .inl (fun _ => 0))) := ⟨_, rfl⟩
  rw [← eh_18] at hI
  have hw := hw h_18 eh_18
  have heh_18 : h_18 q_18 = some (.inl (0, z_18, .inl (fun _ => 0))) := by rw [eh_18]; exact x_up_s
  obtain ⟨fs_20, he_20, hw⟩ := hw
  obtain ⟨hlen20, hw⟩ := hw
  refine x_putF (ci := 2) (v := .ref q_18) (ty := .array .int) (C := RX2) (T := TX2) (N := 4) hx hb hg ku_X2 tyX2 tyX2_ok nmX2 hown hK hI he_20 rfl 2 (by decide) (hg _ kf_X2_16) (fun _ h9 => h9) rfl hin rfl (by decide +kernel) rfl rfl hlen20 dX2_init_20 (fun H locs hI => ?_)
  have hI : x_I G (x_A h0 s.heap.size) s.heap (x_up h_18 x0 (.inr (2, (fs_20 : List Value).set 2 (.ref q_18)))) H locs := hI
  obtain ⟨h_20, eh_20⟩ : ∃ z : xH, z = x_up h_18 x0 (.inr (2, (fs_20 : List Value).set 2 (.ref q_18))) := ⟨_, rfl⟩
  rw [← eh_20] at hI
  have hw := hw h_20 eh_20
  have heh_20 : h_20 x0 = some (.inr (2, (fs_20 : List Value).set 2 (.ref q_18))) := by rw [eh_20]; exact x_up_s
  refine lv_aload_n hx hb dX2_init_23 rfl (lv_at hl 0 rfl) ?_
  refine lv_iload_n hx hb dX2_init_24 rfl (lv_at hl 1 rfl) ?_
  refine lv_iload_n hx hb dX2_init_25 rfl (lv_at hl 2 rfl) ?_
  refine lv_imul hx hb dX2_init_26 ?_
  obtain ⟨hneg27, hw⟩ := hw
  obtain ⟨z_27, hz27⟩ : ∃ z : Nat, ((x1 * x2) : Int32).toNatClampNeg = z := ⟨_, rfl⟩
  obtain ⟨hz227, hkc1, hks1, hw⟩ := hw z_27 hz27
  refine x_newi hx hb (hg _ ka_int) hK hI hneg27 hz27 (by omega) (show 0 + 1 + 1 ≤ mc by omega) (show 0 + z_18 + z_27 ≤ ms by omega) dX2_init_27 (fun q_27 H hfr27 hI => ?_)
  have hw := hw q_27 hfr27
  obtain ⟨h_27, eh_27⟩ : ∃ z : xH, z = x_up h_20 q_27 (.inl (0, z_27, .inl (fun _ => 0))) := ⟨_, rfl⟩
  rw [← eh_27] at hI
  have hw := hw h_27 eh_27
  have heh_27 : h_27 q_27 = some (.inl (0, z_27, .inl (fun _ => 0))) := by rw [eh_27]; exact x_up_s
  obtain ⟨fs_29, he_29, hw⟩ := hw
  obtain ⟨hlen29, hw⟩ := hw
  refine x_putF (ci := 2) (v := .ref q_27) (ty := .array .int) (C := RX2) (T := TX2) (N := 4) hx hb hg ku_X2 tyX2 tyX2_ok nmX2 hown hK hI he_29 rfl 3 (by decide) (hg _ kf_X2_20) (fun _ h9 => h9) rfl hin rfl (by decide +kernel) rfl rfl hlen29 dX2_init_29 (fun H locs hI => ?_)
  have hI : x_I G (x_A h0 s.heap.size) s.heap (x_up h_27 x0 (.inr (2, (fs_29 : List Value).set 3 (.ref q_27)))) H locs := hI
  obtain ⟨h_29, eh_29⟩ : ∃ z : xH, z = x_up h_27 x0 (.inr (2, (fs_29 : List Value).set 3 (.ref q_27))) := ⟨_, rfl⟩
  rw [← eh_29] at hI
  have hw := hw h_29 eh_29
  have heh_29 : h_29 x0 = some (.inr (2, (fs_29 : List Value).set 3 (.ref q_27))) := by rw [eh_29]; exact x_up_s
  refine lv_aload_n hx hb dX2_init_32 rfl (lv_at hl 0 rfl) ?_
  obtain ⟨v_33, hv_33, hw⟩ := hw
  refine x_get (ci := 2) (C := RX2) (T := TX2) (N := 4) hx hb hg ku_X2 hown hK hI heh_29 rfl 3 (by decide) (hg _ kf_X2_20) (fun _ h9 => h9) hv_33 dX2_init_33 ?_
  refine lv_iconst (v := 1) hx hb dX2_init_36 (by decide) ?_
  refine x_cv (va_runS (As := [.ref v_33, .int 1]) (rest := []) ⟨hx, hb, hml, hown, hg⟩ (m_J7_fill l G h_29  v_33 1 _ hw H.size) (va_cwS 2 hg (x_gS km_X2_23 ks_J7_fill_53178 kn_J7 kk_J7_fill_53178) rfl rfl rfl (by decide +kernel) ⟨Nat.le_of_ble_eq_true rfl, Nat.le_of_ble_eq_true rfl⟩) ⟨x_blind, x_pre hI hK⟩ rfl rfl hl.1 rfl (lv_room (Nat.le_of_ble_eq_true rfl)) dX2_init_37 ⟨show 0 + 1 + 1 + 0 ≤ mc by omega, show 0 + z_18 + z_27 + 0 ≤ ms by omega⟩) hI (fun h_37 H locs hw hI => ?_)
  exact x_vret hx hb hr hlocks hI hw (by omega) (by omega) dX2_init_40
-- ===== ExactFilter$Part.has
abbrev rX2_has  : Room := { frames := 0, cells := 0, slots := 0, locals := 0 }
def wj_X2_has_29 (h0 : xH) (post : Int32 → Prop)  (s0 : Int32) : Prop := narrow .boolean (.int s0) = .int s0 ∧ post s0
def wj_X2_has_28 (h0 : xH) (post : Int32 → Prop)   : Prop := wj_X2_has_29 h0 post  0
def wp_X2_has (h0 : xH)  (x0 : Nat) (x1 : Int32) (x2 : Int32) (post : Int32 → Prop) : Prop := (x1 < 0 → wj_X2_has_28 h0 post  ) ∧ (¬ x1 < 0 → ∃ fs_6 : List Value, h0 x0 = some (.inr (2, fs_6)) ∧ ∃ v_6 : Int32, fs_6[0]? = some (.int v_6) ∧ (v_6 ≤ x1 → wj_X2_has_28 h0 post  ) ∧ (¬ v_6 ≤ x1 → (x2 < 0 → wj_X2_has_28 h0 post  ) ∧ (¬ x2 < 0 → ∃ v_18 : Int32, fs_6[1]? = some (.int v_18) ∧ (v_18 ≤ x2 → wj_X2_has_28 h0 post  ) ∧ (¬ v_18 ≤ x2 → wj_X2_has_29 h0 post  1))))
set_option maxHeartbeats 4000000 in
set_option maxRecDepth 100000 in
theorem mj_X2_has_29 (C : CX p s m args meth c G RX2 cX2_has 3 (some .boolean)) (h0 : xH) (post : Int32 → Prop) 
    
    (s0 : Int32) (H : Heap) (locs : List Loc) (ls : Array Slot) (nc ns : Nat) (hw : wj_X2_has_29 h0 post  s0) (hI : x_I G (x_A h0 s.heap.size) s.heap h0 H locs) (hkc : nc + 0 ≤ 0) (hks : ns + 0 ≤ 0) (hl : lv_has ls 3 []) : W p l e (rX2_has) s m args below meth c H locs nc ns (MQ below (x_Qi G h0 s.heap.size (fun r9 h9 => h9 = h0 ∧ post r9)) args s 0 0 (x_A h0 s.heap.size)) (F0 m 29 ls [.int s0]) := by
  obtain ⟨hx, hb, hr, hml, hown, hg, hlocks, hK⟩ := id C
  unfold wj_X2_has_29 at hw
  exact x_zret hx hb hr hw.1 hlocks hI ⟨rfl, hw.2⟩ (by omega) (by omega) dX2_has_29
set_option maxHeartbeats 4000000 in
set_option maxRecDepth 100000 in
theorem mj_X2_has_28 (C : CX p s m args meth c G RX2 cX2_has 3 (some .boolean)) (h0 : xH) (post : Int32 → Prop) 
    
     (H : Heap) (locs : List Loc) (ls : Array Slot) (nc ns : Nat) (hw : wj_X2_has_28 h0 post  ) (hI : x_I G (x_A h0 s.heap.size) s.heap h0 H locs) (hkc : nc + 0 ≤ 0) (hks : ns + 0 ≤ 0) (hl : lv_has ls 3 []) : W p l e (rX2_has) s m args below meth c H locs nc ns (MQ below (x_Qi G h0 s.heap.size (fun r9 h9 => h9 = h0 ∧ post r9)) args s 0 0 (x_A h0 s.heap.size)) (F0 m 28 ls []) := by
  obtain ⟨hx, hb, hr, hml, hown, hg, hlocks, hK⟩ := id C
  unfold wj_X2_has_28 at hw
  refine lv_iconst (v := 0) hx hb dX2_has_28 (by decide) ?_
  exact mj_X2_has_29 C h0 post  _ _ _ _ _ _ hw hI (by omega) (by omega) (lv_sub hl [] rfl)
set_option maxHeartbeats 4000000 in
set_option maxRecDepth 100000 in
theorem m_X2_has (l : Launch) (G : xG) (h0 : xH)  (x0 : Nat) (x1 : Int32) (x2 : Int32) (post : Int32 → Prop) (hw : wp_X2_has h0  x0 x1 x2 post) (sz : Nat) : Met l yX2_has (wu yX2_has cX2_has 3 (some .boolean)) (rX2_has) (x_Pc G [.ref x0, .int x1, .int x2] h0 sz) (x_Qi G h0 sz (fun r9 h9 => h9 = h0 ∧ post r9)) 0 0 (x_A h0 sz) := by
  refine Met.ofW (cc := cX2_has) (maxL := 3) (ret := (some .boolean)) (by decide) rfl ?_
  intro p e s m args below meth c s₁ B hml hv
  obtain ⟨rfl, hsz, hR, hK⟩ := hv
  subst hsz
  have C : CX p s m _ meth c G RX2 cX2_has 3 (some .boolean) := ⟨B.exec, B.bytes, B.returns, hml, findClass_of_methodNamed B.named, x_hg (atoms_spec (ws := wu yX2_has cX2_has 3 (some .boolean)) B.pre), B.notSynchronized, hK⟩
  obtain ⟨hx, hb, hr, hml, hown, hg, hlocks, hK⟩ := id C
  have hI : x_I G (x_A h0 s.heap.size) s.heap h0 s.heap [] := x_I.start hR
  have hkc : 0 + 0 ≤ 0 := by omega
  have hks : 0 + 0 ≤ 0 := by omega
  have hl := lv_entry ([.ref x0, .int x1, .int x2]) (n := 3) (Nat.le_of_ble_eq_true rfl)
  rw [lg_entry_eq]
  generalize (lg_sl ([.ref x0, .int x1, .int x2]) ++ List.replicate (3 - (lg_sl ([.ref x0, .int x1, .int x2])).length) Slot.unset).toArray = ls at hl ⊢
  have hl : lv_has ls 3 [(0, .ref x0), (1, .int x1), (2, .int x2)] := hl
  unfold wp_X2_has at hw
  refine lv_iload_n hx hb dX2_has_0 rfl (lv_at hl 1 rfl) ?_
  refine lv_if_lt (tgt := 28) hx hb dX2_has_1 (by decide) (fun hc1 => ?_) (fun hc1 => ?_)
  · have hw := hw.1 hc1
    exact mj_X2_has_28 C h0 post   _ _ _ _ _ hw hI (by omega) (by omega) (lv_sub hl [] rfl)
  · have hw := hw.2 hc1
    refine lv_iload_n hx hb dX2_has_4 rfl (lv_at hl 1 rfl) ?_
    refine lv_aload_n hx hb dX2_has_5 rfl (lv_at hl 0 rfl) ?_
    obtain ⟨fs_6, he_6, hw⟩ := hw
    obtain ⟨v_6, hv_6, hw⟩ := hw
    refine x_get (ci := 2) (C := RX2) (T := TX2) (N := 4) hx hb hg ku_X2 hown hK hI he_6 rfl 0 (by decide) (hg _ kf_X2_7) (fun _ h9 => h9) hv_6 dX2_has_6 ?_
    refine lv_icmp_ge (tgt := 28) hx hb dX2_has_9 (by decide) (fun hc9 => ?_) (fun hc9 => ?_)
    · have hw := hw.1 hc9
      exact mj_X2_has_28 C h0 post   _ _ _ _ _ hw hI (by omega) (by omega) (lv_sub hl [] rfl)
    · have hw := hw.2 hc9
      refine lv_iload_n hx hb dX2_has_12 rfl (lv_at hl 2 rfl) ?_
      refine lv_if_lt (tgt := 28) hx hb dX2_has_13 (by decide) (fun hc13 => ?_) (fun hc13 => ?_)
      · have hw := hw.1 hc13
        exact mj_X2_has_28 C h0 post   _ _ _ _ _ hw hI (by omega) (by omega) (lv_sub hl [] rfl)
      · have hw := hw.2 hc13
        refine lv_iload_n hx hb dX2_has_16 rfl (lv_at hl 2 rfl) ?_
        refine lv_aload_n hx hb dX2_has_17 rfl (lv_at hl 0 rfl) ?_
        obtain ⟨v_18, hv_18, hw⟩ := hw
        refine x_get (ci := 2) (C := RX2) (T := TX2) (N := 4) hx hb hg ku_X2 hown hK hI he_6 rfl 1 (by decide) (hg _ kf_X2_13) (fun _ h9 => h9) hv_18 dX2_has_18 ?_
        refine lv_icmp_ge (tgt := 28) hx hb dX2_has_21 (by decide) (fun hc21 => ?_) (fun hc21 => ?_)
        · have hw := hw.1 hc21
          exact mj_X2_has_28 C h0 post   _ _ _ _ _ hw hI (by omega) (by omega) (lv_sub hl [] rfl)
        · have hw := hw.2 hc21
          refine lv_iconst (v := 1) hx hb dX2_has_24 (by decide) ?_
          refine lv_goto (tgt := 29) hx hb dX2_has_25 (by decide) ?_
          exact mj_X2_has_29 C h0 post  _ _ _ _ _ _ hw hI (by omega) (by omega) (lv_sub hl [] rfl)
-- ===== ExactFilter$Part.put
abbrev rX2_put  : Room := { frames := 0, cells := 0, slots := 0, locals := 0 }
def wp_X2_put (h0 : xH)  (x0 : Nat) (x1 : Int32) (x2 : Int32) (x3 : Int32) (x4 : Int32) (post : xH → Prop) : Prop := ∃ fs_1 : List Value, h0 x0 = some (.inr (2, fs_1)) ∧ ∃ v_1 : Nat, fs_1[2]? = some (.ref v_1) ∧ ∃ v_6 : Int32, fs_1[1]? = some (.int v_6) ∧ ∃ (n_13 : Nat) (f_13 : Nat → Int32), h0 v_1 = some (.inl (0, n_13, .inl f_13)) ∧ vp_in ((x1 * v_6) + x2) n_13 ∧ ∀ h_13 : xH, h_13 = x_up h0 v_1 (.inl (0, n_13, .inl (upd f_13 (((x1 * v_6) + x2) : Int32).toNatClampNeg x3))) → ∃ fs_15 : List Value, h_13 x0 = some (.inr (2, fs_15)) ∧ ∃ v_15 : Nat, fs_15[3]? = some (.ref v_15) ∧ ∃ v_20 : Int32, fs_15[1]? = some (.int v_20) ∧ ∃ (n_28 : Nat) (f_28 : Nat → Int32), h_13 v_15 = some (.inl (0, n_28, .inl f_28)) ∧ vp_in ((x1 * v_20) + x2) n_28 ∧ ∀ h_28 : xH, h_28 = x_up h_13 v_15 (.inl (0, n_28, .inl (upd f_28 (((x1 * v_20) + x2) : Int32).toNatClampNeg x4))) → post h_28
set_option maxHeartbeats 4000000 in
set_option maxRecDepth 100000 in
theorem m_X2_put (l : Launch) (G : xG) (h0 : xH)  (x0 : Nat) (x1 : Int32) (x2 : Int32) (x3 : Int32) (x4 : Int32) (post : xH → Prop) (hw : wp_X2_put h0  x0 x1 x2 x3 x4 post) (sz : Nat) : Met l yX2_put (wu yX2_put cX2_put 5 none) (rX2_put) (x_Pc G [.ref x0, .int x1, .int x2, .int x3, .int x4] h0 sz) (x_Qv G h0 sz post) 0 0 (x_A h0 sz) := by
  refine Met.ofW (cc := cX2_put) (maxL := 5) (ret := none) (by decide) rfl ?_
  intro p e s m args below meth c s₁ B hml hv
  obtain ⟨rfl, hsz, hR, hK⟩ := hv
  subst hsz
  have C : CX p s m _ meth c G RX2 cX2_put 5 none := ⟨B.exec, B.bytes, B.returns, hml, findClass_of_methodNamed B.named, x_hg (atoms_spec (ws := wu yX2_put cX2_put 5 none) B.pre), B.notSynchronized, hK⟩
  obtain ⟨hx, hb, hr, hml, hown, hg, hlocks, hK⟩ := id C
  have hI : x_I G (x_A h0 s.heap.size) s.heap h0 s.heap [] := x_I.start hR
  have hkc : 0 + 0 ≤ 0 := by omega
  have hks : 0 + 0 ≤ 0 := by omega
  have hl := lv_entry ([.ref x0, .int x1, .int x2, .int x3, .int x4]) (n := 5) (Nat.le_of_ble_eq_true rfl)
  rw [lg_entry_eq]
  generalize (lg_sl ([.ref x0, .int x1, .int x2, .int x3, .int x4]) ++ List.replicate (5 - (lg_sl ([.ref x0, .int x1, .int x2, .int x3, .int x4])).length) Slot.unset).toArray = ls at hl ⊢
  have hl : lv_has ls 5 [(0, .ref x0), (1, .int x1), (2, .int x2), (3, .int x3), (4, .int x4)] := hl
  unfold wp_X2_put at hw
  refine lv_aload_n hx hb dX2_put_0 rfl (lv_at hl 0 rfl) ?_
  obtain ⟨fs_1, he_1, hw⟩ := hw
  obtain ⟨v_1, hv_1, hw⟩ := hw
  refine x_get (ci := 2) (C := RX2) (T := TX2) (N := 4) hx hb hg ku_X2 hown hK hI he_1 rfl 2 (by decide) (hg _ kf_X2_16) (fun _ h9 => h9) hv_1 dX2_put_1 ?_
  refine lv_iload_n hx hb dX2_put_4 rfl (lv_at hl 1 rfl) ?_
  refine lv_aload_n hx hb dX2_put_5 rfl (lv_at hl 0 rfl) ?_
  obtain ⟨v_6, hv_6, hw⟩ := hw
  refine x_get (ci := 2) (C := RX2) (T := TX2) (N := 4) hx hb hg ku_X2 hown hK hI he_1 rfl 1 (by decide) (hg _ kf_X2_13) (fun _ h9 => h9) hv_6 dX2_put_6 ?_
  refine lv_imul hx hb dX2_put_9 ?_
  refine lv_iload_n hx hb dX2_put_10 rfl (lv_at hl 2 rfl) ?_
  refine lv_iadd hx hb dX2_put_11 ?_
  refine lv_iload_n hx hb dX2_put_12 rfl (lv_at hl 3 rfl) ?_
  obtain ⟨n_13, f_13, he_13, hw⟩ := hw
  obtain ⟨hi13, hw⟩ := hw
  refine x_iast hx hb hK hI he_13 hi13 dX2_put_13 (fun H locs hI => ?_)
  obtain ⟨h_13, eh_13⟩ : ∃ z : xH, z = x_up h0 v_1 (.inl (0, n_13, .inl (upd f_13 (((x1 * v_6) + x2) : Int32).toNatClampNeg x3))) := ⟨_, rfl⟩
  rw [← eh_13] at hI
  have hw := hw h_13 eh_13
  have heh_13 : h_13 v_1 = some (.inl (0, n_13, .inl (upd f_13 (((x1 * v_6) + x2) : Int32).toNatClampNeg x3))) := by rw [eh_13]; exact x_up_s
  refine lv_aload_n hx hb dX2_put_14 rfl (lv_at hl 0 rfl) ?_
  obtain ⟨fs_15, he_15, hw⟩ := hw
  obtain ⟨v_15, hv_15, hw⟩ := hw
  refine x_get (ci := 2) (C := RX2) (T := TX2) (N := 4) hx hb hg ku_X2 hown hK hI he_15 rfl 3 (by decide) (hg _ kf_X2_20) (fun _ h9 => h9) hv_15 dX2_put_15 ?_
  refine lv_iload_n hx hb dX2_put_18 rfl (lv_at hl 1 rfl) ?_
  refine lv_aload_n hx hb dX2_put_19 rfl (lv_at hl 0 rfl) ?_
  obtain ⟨v_20, hv_20, hw⟩ := hw
  refine x_get (ci := 2) (C := RX2) (T := TX2) (N := 4) hx hb hg ku_X2 hown hK hI he_15 rfl 1 (by decide) (hg _ kf_X2_13) (fun _ h9 => h9) hv_20 dX2_put_20 ?_
  refine lv_imul hx hb dX2_put_23 ?_
  refine lv_iload_n hx hb dX2_put_24 rfl (lv_at hl 2 rfl) ?_
  refine lv_iadd hx hb dX2_put_25 ?_
  refine lv_iload hx hb dX2_put_26 (lv_at hl 4 rfl) ?_
  obtain ⟨n_28, f_28, he_28, hw⟩ := hw
  obtain ⟨hi28, hw⟩ := hw
  refine x_iast hx hb hK hI he_28 hi28 dX2_put_28 (fun H locs hI => ?_)
  obtain ⟨h_28, eh_28⟩ : ∃ z : xH, z = x_up h_13 v_15 (.inl (0, n_28, .inl (upd f_28 (((x1 * v_20) + x2) : Int32).toNatClampNeg x4))) := ⟨_, rfl⟩
  rw [← eh_28] at hI
  have hw := hw h_28 eh_28
  have heh_28 : h_28 v_15 = some (.inl (0, n_28, .inl (upd f_28 (((x1 * v_20) + x2) : Int32).toNatClampNeg x4))) := by rw [eh_28]; exact x_up_s
  exact x_vret hx hb hr hlocks hI hw (by omega) (by omega) dX2_put_29
-- ===== ExactFilter$Part.isFit
abbrev rX2_isFit  : Room := { frames := 0, cells := 0, slots := 0, locals := 0 }
def wj_X2_isFit_26 (h0 : xH) (post : Int32 → Prop)   : Prop := post 0
def wj_X2_isFit_100 (h0 : xH) (post : Int32 → Prop)  (s0 : Int32) : Prop := narrow .boolean (.int s0) = .int s0 ∧ post s0
def wp_X2_isFit (h0 : xH)  (x0 : Nat) (post : Int32 → Prop) : Prop := ∃ fs_1 : List Value, h0 x0 = some (.inr (2, fs_1)) ∧ ∃ v_1 : Nat, fs_1[2]? = some (.ref v_1) ∧ ∃ (n_4 : Nat) (f_4 : Nat → Int32), h0 v_1 = some (.inl (0, n_4, .inl f_4)) ∧ ∀ (x1_7 : Int32), x1_7 = ((nI n_4) - 1) → vp_in 0 n_4 ∧ ((f_4 (0 : Int32).toNatClampNeg) < 0 → wj_X2_isFit_26 h0 post  ) ∧ (¬ (f_4 (0 : Int32).toNatClampNeg) < 0 → vp_in x1_7 n_4 ∧ (0 ≤ (f_4 (x1_7 : Int32).toNatClampNeg) → (¬ x1_7 = 0 → vp_in 0 n_4 ∧ vp_in x1_7 n_4 ∧ ∃ v_48 : Nat, fs_1[3]? = some (.ref v_48) ∧ ∃ (n_52 : Nat) (f_52 : Nat → Int32), h0 v_48 = some (.inl (0, n_52, .inl f_52)) ∧ vp_in 1 n_52 ∧ vp_in 1 n_52 ∧ ∀ (x2_61 : Int32), x2_61 = ((((f_4 (0 : Int32).toNatClampNeg) * (f_4 (x1_7 : Int32).toNatClampNeg)) * (f_52 (1 : Int32).toNatClampNeg)) * (f_52 (1 : Int32).toNatClampNeg)) → vp_in 1 n_4 ∧ vp_in 1 n_4 ∧ vp_in 0 n_52 ∧ vp_in x1_7 n_52 ∧ ∀ (x3_89 : Int32), x3_89 = ((((f_4 (1 : Int32).toNatClampNeg) * (f_4 (1 : Int32).toNatClampNeg)) * (f_52 (0 : Int32).toNatClampNeg)) * (f_52 (x1_7 : Int32).toNatClampNeg)) → (x2_61 < x3_89 → wj_X2_isFit_100 h0 post  0) ∧ (¬ x2_61 < x3_89 → wj_X2_isFit_100 h0 post  1)) ∧ (x1_7 = 0 → post 1)) ∧ (¬ 0 ≤ (f_4 (x1_7 : Int32).toNatClampNeg) → wj_X2_isFit_26 h0 post  ))
set_option maxHeartbeats 4000000 in
set_option maxRecDepth 100000 in
theorem mj_X2_isFit_26 (C : CX p s m args meth c G RX2 cX2_isFit 4 (some .boolean)) (h0 : xH) (post : Int32 → Prop) 
    
     (H : Heap) (locs : List Loc) (ls : Array Slot) (nc ns : Nat) (hw : wj_X2_isFit_26 h0 post  ) (hI : x_I G (x_A h0 s.heap.size) s.heap h0 H locs) (hkc : nc + 0 ≤ 0) (hks : ns + 0 ≤ 0) (hl : lv_has ls 4 []) : W p l e (rX2_isFit) s m args below meth c H locs nc ns (MQ below (x_Qi G h0 s.heap.size (fun r9 h9 => h9 = h0 ∧ post r9)) args s 0 0 (x_A h0 s.heap.size)) (F0 m 26 ls []) := by
  obtain ⟨hx, hb, hr, hml, hown, hg, hlocks, hK⟩ := id C
  unfold wj_X2_isFit_26 at hw
  refine lv_iconst (v := 0) hx hb dX2_isFit_26 (by decide) ?_
  exact x_zret hx hb hr rfl hlocks hI ⟨rfl, hw⟩ (by omega) (by omega) dX2_isFit_27
set_option maxHeartbeats 4000000 in
set_option maxRecDepth 100000 in
theorem mj_X2_isFit_100 (C : CX p s m args meth c G RX2 cX2_isFit 4 (some .boolean)) (h0 : xH) (post : Int32 → Prop) 
    
    (s0 : Int32) (H : Heap) (locs : List Loc) (ls : Array Slot) (nc ns : Nat) (hw : wj_X2_isFit_100 h0 post  s0) (hI : x_I G (x_A h0 s.heap.size) s.heap h0 H locs) (hkc : nc + 0 ≤ 0) (hks : ns + 0 ≤ 0) (hl : lv_has ls 4 []) : W p l e (rX2_isFit) s m args below meth c H locs nc ns (MQ below (x_Qi G h0 s.heap.size (fun r9 h9 => h9 = h0 ∧ post r9)) args s 0 0 (x_A h0 s.heap.size)) (F0 m 100 ls [.int s0]) := by
  obtain ⟨hx, hb, hr, hml, hown, hg, hlocks, hK⟩ := id C
  unfold wj_X2_isFit_100 at hw
  exact x_zret hx hb hr hw.1 hlocks hI ⟨rfl, hw.2⟩ (by omega) (by omega) dX2_isFit_100
set_option maxHeartbeats 4000000 in
set_option maxRecDepth 100000 in
theorem m_X2_isFit (l : Launch) (G : xG) (h0 : xH)  (x0 : Nat) (post : Int32 → Prop) (hw : wp_X2_isFit h0  x0 post) (sz : Nat) : Met l yX2_isFit (wu yX2_isFit cX2_isFit 4 (some .boolean)) (rX2_isFit) (x_Pc G [.ref x0] h0 sz) (x_Qi G h0 sz (fun r9 h9 => h9 = h0 ∧ post r9)) 0 0 (x_A h0 sz) := by
  refine Met.ofW (cc := cX2_isFit) (maxL := 4) (ret := (some .boolean)) (by decide) rfl ?_
  intro p e s m args below meth c s₁ B hml hv
  obtain ⟨rfl, hsz, hR, hK⟩ := hv
  subst hsz
  have C : CX p s m _ meth c G RX2 cX2_isFit 4 (some .boolean) := ⟨B.exec, B.bytes, B.returns, hml, findClass_of_methodNamed B.named, x_hg (atoms_spec (ws := wu yX2_isFit cX2_isFit 4 (some .boolean)) B.pre), B.notSynchronized, hK⟩
  obtain ⟨hx, hb, hr, hml, hown, hg, hlocks, hK⟩ := id C
  have hI : x_I G (x_A h0 s.heap.size) s.heap h0 s.heap [] := x_I.start hR
  have hkc : 0 + 0 ≤ 0 := by omega
  have hks : 0 + 0 ≤ 0 := by omega
  have hl := lv_entry ([.ref x0]) (n := 4) (Nat.le_of_ble_eq_true rfl)
  rw [lg_entry_eq]
  generalize (lg_sl ([.ref x0]) ++ List.replicate (4 - (lg_sl ([.ref x0])).length) Slot.unset).toArray = ls at hl ⊢
  have hl : lv_has ls 4 [(0, .ref x0)] := hl
  unfold wp_X2_isFit at hw
  refine lv_aload_n hx hb dX2_isFit_0 rfl (lv_at hl 0 rfl) ?_
  obtain ⟨fs_1, he_1, hw⟩ := hw
  obtain ⟨v_1, hv_1, hw⟩ := hw
  refine x_get (ci := 2) (C := RX2) (T := TX2) (N := 4) hx hb hg ku_X2 hown hK hI he_1 rfl 2 (by decide) (hg _ kf_X2_16) (fun _ h9 => h9) hv_1 dX2_isFit_1 ?_
  obtain ⟨n_4, f_4, he_4, hw⟩ := hw
  refine x_alen hx hb hK hI he_4 rfl dX2_isFit_4 ?_
  refine W.eq (g2 := F0 m 5 ls (.int (nI n_4) :: [])) rfl ?_
  refine lv_iconst (v := 1) hx hb dX2_isFit_5 (by decide) ?_
  refine lv_isub hx hb dX2_isFit_6 ?_
  refine lv_topi (fun x1_7 ex1_7 => ?_)
  have hw := hw x1_7 ex1_7
  refine lv_istore_n (lv' := [(1, .int x1_7), (0, .ref x0)]) hx hb dX2_isFit_7 rfl hl (by decide) rfl (fun ls hl => ?_)
  refine lv_aload_n hx hb dX2_isFit_8 rfl (lv_at hl 1 rfl) ?_
  refine x_get (ci := 2) (C := RX2) (T := TX2) (N := 4) hx hb hg ku_X2 hown hK hI he_1 rfl 2 (by decide) (hg _ kf_X2_16) (fun _ h9 => h9) hv_1 dX2_isFit_9 ?_
  refine lv_iconst (v := 0) hx hb dX2_isFit_12 (by decide) ?_
  obtain ⟨hi13, hw⟩ := hw
  refine x_iald hx hb hK hI he_4 hi13 dX2_isFit_13 ?_
  refine lv_if_lt (tgt := 26) hx hb dX2_isFit_14 (by decide) (fun hc14 => ?_) (fun hc14 => ?_)
  · have hw := hw.1 hc14
    exact mj_X2_isFit_26 C h0 post   _ _ _ _ _ hw hI (by omega) (by omega) (lv_sub hl [] rfl)
  · have hw := hw.2 hc14
    refine lv_aload_n hx hb dX2_isFit_17 rfl (lv_at hl 1 rfl) ?_
    refine x_get (ci := 2) (C := RX2) (T := TX2) (N := 4) hx hb hg ku_X2 hown hK hI he_1 rfl 2 (by decide) (hg _ kf_X2_16) (fun _ h9 => h9) hv_1 dX2_isFit_18 ?_
    refine lv_iload_n hx hb dX2_isFit_21 rfl (lv_at hl 0 rfl) ?_
    obtain ⟨hi22, hw⟩ := hw
    refine x_iald hx hb hK hI he_4 hi22 dX2_isFit_22 ?_
    refine lv_if_ge (tgt := 28) hx hb dX2_isFit_23 (by decide) (fun hc23 => ?_) (fun hc23 => ?_)
    · have hw := hw.1 hc23
      refine lv_iload_n hx hb dX2_isFit_28 rfl (lv_at hl 0 rfl) ?_
      refine lv_if_ne (tgt := 34) hx hb dX2_isFit_29 (by decide) (fun hc29 => ?_) (fun hc29 => ?_)
      · have hw := hw.1 hc29
        refine lv_aload_n hx hb dX2_isFit_34 rfl (lv_at hl 1 rfl) ?_
        refine x_get (ci := 2) (C := RX2) (T := TX2) (N := 4) hx hb hg ku_X2 hown hK hI he_1 rfl 2 (by decide) (hg _ kf_X2_16) (fun _ h9 => h9) hv_1 dX2_isFit_35 ?_
        refine lv_iconst (v := 0) hx hb dX2_isFit_38 (by decide) ?_
        obtain ⟨hi39, hw⟩ := hw
        refine x_iald hx hb hK hI he_4 hi39 dX2_isFit_39 ?_
        refine lv_aload_n hx hb dX2_isFit_40 rfl (lv_at hl 1 rfl) ?_
        refine x_get (ci := 2) (C := RX2) (T := TX2) (N := 4) hx hb hg ku_X2 hown hK hI he_1 rfl 2 (by decide) (hg _ kf_X2_16) (fun _ h9 => h9) hv_1 dX2_isFit_41 ?_
        refine lv_iload_n hx hb dX2_isFit_44 rfl (lv_at hl 0 rfl) ?_
        obtain ⟨hi45, hw⟩ := hw
        refine x_iald hx hb hK hI he_4 hi45 dX2_isFit_45 ?_
        refine lv_imul hx hb dX2_isFit_46 ?_
        refine lv_aload_n hx hb dX2_isFit_47 rfl (lv_at hl 1 rfl) ?_
        obtain ⟨v_48, hv_48, hw⟩ := hw
        refine x_get (ci := 2) (C := RX2) (T := TX2) (N := 4) hx hb hg ku_X2 hown hK hI he_1 rfl 3 (by decide) (hg _ kf_X2_20) (fun _ h9 => h9) hv_48 dX2_isFit_48 ?_
        refine lv_iconst (v := 1) hx hb dX2_isFit_51 (by decide) ?_
        obtain ⟨n_52, f_52, he_52, hw⟩ := hw
        obtain ⟨hi52, hw⟩ := hw
        refine x_iald hx hb hK hI he_52 hi52 dX2_isFit_52 ?_
        refine lv_imul hx hb dX2_isFit_53 ?_
        refine lv_aload_n hx hb dX2_isFit_54 rfl (lv_at hl 1 rfl) ?_
        refine x_get (ci := 2) (C := RX2) (T := TX2) (N := 4) hx hb hg ku_X2 hown hK hI he_1 rfl 3 (by decide) (hg _ kf_X2_20) (fun _ h9 => h9) hv_48 dX2_isFit_55 ?_
        refine lv_iconst (v := 1) hx hb dX2_isFit_58 (by decide) ?_
        obtain ⟨hi59, hw⟩ := hw
        refine x_iald hx hb hK hI he_52 hi59 dX2_isFit_59 ?_
        refine lv_imul hx hb dX2_isFit_60 ?_
        refine lv_topi (fun x2_61 ex2_61 => ?_)
        have hw := hw x2_61 ex2_61
        refine lv_istore_n (lv' := [(2, .int x2_61), (1, .int x1_7), (0, .ref x0)]) hx hb dX2_isFit_61 rfl hl (by decide) rfl (fun ls hl => ?_)
        refine lv_aload_n hx hb dX2_isFit_62 rfl (lv_at hl 2 rfl) ?_
        refine x_get (ci := 2) (C := RX2) (T := TX2) (N := 4) hx hb hg ku_X2 hown hK hI he_1 rfl 2 (by decide) (hg _ kf_X2_16) (fun _ h9 => h9) hv_1 dX2_isFit_63 ?_
        refine lv_iconst (v := 1) hx hb dX2_isFit_66 (by decide) ?_
        obtain ⟨hi67, hw⟩ := hw
        refine x_iald hx hb hK hI he_4 hi67 dX2_isFit_67 ?_
        refine lv_aload_n hx hb dX2_isFit_68 rfl (lv_at hl 2 rfl) ?_
        refine x_get (ci := 2) (C := RX2) (T := TX2) (N := 4) hx hb hg ku_X2 hown hK hI he_1 rfl 2 (by decide) (hg _ kf_X2_16) (fun _ h9 => h9) hv_1 dX2_isFit_69 ?_
        refine lv_iconst (v := 1) hx hb dX2_isFit_72 (by decide) ?_
        obtain ⟨hi73, hw⟩ := hw
        refine x_iald hx hb hK hI he_4 hi73 dX2_isFit_73 ?_
        refine lv_imul hx hb dX2_isFit_74 ?_
        refine lv_aload_n hx hb dX2_isFit_75 rfl (lv_at hl 2 rfl) ?_
        refine x_get (ci := 2) (C := RX2) (T := TX2) (N := 4) hx hb hg ku_X2 hown hK hI he_1 rfl 3 (by decide) (hg _ kf_X2_20) (fun _ h9 => h9) hv_48 dX2_isFit_76 ?_
        refine lv_iconst (v := 0) hx hb dX2_isFit_79 (by decide) ?_
        obtain ⟨hi80, hw⟩ := hw
        refine x_iald hx hb hK hI he_52 hi80 dX2_isFit_80 ?_
        refine lv_imul hx hb dX2_isFit_81 ?_
        refine lv_aload_n hx hb dX2_isFit_82 rfl (lv_at hl 2 rfl) ?_
        refine x_get (ci := 2) (C := RX2) (T := TX2) (N := 4) hx hb hg ku_X2 hown hK hI he_1 rfl 3 (by decide) (hg _ kf_X2_20) (fun _ h9 => h9) hv_48 dX2_isFit_83 ?_
        refine lv_iload_n hx hb dX2_isFit_86 rfl (lv_at hl 1 rfl) ?_
        obtain ⟨hi87, hw⟩ := hw
        refine x_iald hx hb hK hI he_52 hi87 dX2_isFit_87 ?_
        refine lv_imul hx hb dX2_isFit_88 ?_
        refine lv_topi (fun x3_89 ex3_89 => ?_)
        have hw := hw x3_89 ex3_89
        refine lv_istore_n (lv' := [(3, .int x3_89), (2, .int x2_61), (1, .int x1_7), (0, .ref x0)]) hx hb dX2_isFit_89 rfl hl (by decide) rfl (fun ls hl => ?_)
        refine lv_iload_n hx hb dX2_isFit_90 rfl (lv_at hl 1 rfl) ?_
        refine lv_iload_n hx hb dX2_isFit_91 rfl (lv_at hl 0 rfl) ?_
        refine lv_icmp_lt (tgt := 99) hx hb dX2_isFit_92 (by decide) (fun hc92 => ?_) (fun hc92 => ?_)
        · have hw := hw.1 hc92
          refine lv_iconst (v := 0) hx hb dX2_isFit_99 (by decide) ?_
          exact mj_X2_isFit_100 C h0 post  _ _ _ _ _ _ hw hI (by omega) (by omega) (lv_sub hl [] rfl)
        · have hw := hw.2 hc92
          refine lv_iconst (v := 1) hx hb dX2_isFit_95 (by decide) ?_
          refine lv_goto (tgt := 100) hx hb dX2_isFit_96 (by decide) ?_
          exact mj_X2_isFit_100 C h0 post  _ _ _ _ _ _ hw hI (by omega) (by omega) (lv_sub hl [] rfl)
      · have hw := hw.2 hc29
        refine lv_iconst (v := 1) hx hb dX2_isFit_32 (by decide) ?_
        exact x_zret hx hb hr rfl hlocks hI ⟨rfl, hw⟩ (by omega) (by omega) dX2_isFit_33
    · have hw := hw.2 hc23
      exact mj_X2_isFit_26 C h0 post   _ _ _ _ _ hw hI (by omega) (by omega) (lv_sub hl [] rfl)
-- ===== ExactFilter$Part.commonBelow
abbrev rX2_commonBelow  : Room := { frames := 0, cells := 0, slots := 0, locals := 0 }
def wl_X2_commonBelow_18 (h0 : xH) (post : Int32 → Prop) (K50 : Nat → Int32 → Int32 → Prop) : Nat → Nat → Int32 → Int32 → Int32 → Int32 → Prop
  | 0, _, _, _, _, _ => False
  | n + 1, x0, x1, x2, x3, x4 => ∃ fs_21 : List Value, h0 x0 = some (.inr (2, fs_21)) ∧ ∃ v_21 : Nat, fs_21[3]? = some (.ref v_21) ∧ ∃ (n_25 : Nat) (f_25 : Nat → Int32), h0 v_21 = some (.inl (0, n_25, .inl f_25)) ∧ vp_in x2 n_25 ∧ ((f_25 (x2 : Int32).toNatClampNeg) ≤ x4 → K50 x0 x2 x3) ∧ (¬ (f_25 (x2 : Int32).toNatClampNeg) ≤ x4 → vp_in x2 n_25 ∧ ¬ (f_25 (x2 : Int32).toNatClampNeg) = 0 ∧ ((x3 - x3 / (f_25 (x2 : Int32).toNatClampNeg) * (f_25 (x2 : Int32).toNatClampNeg)) = 0 → K50 x0 x2 x3) ∧ (¬ (x3 - x3 / (f_25 (x2 : Int32).toNatClampNeg) * (f_25 (x2 : Int32).toNatClampNeg)) = 0 → ∀ (x3_43 : Int32), x3_43 = (x3 + x1) → ∀ (x4_44 : Int32), x4_44 = x4 + 1 → wl_X2_commonBelow_18 h0 post K50 n x0 x1 x2 x3_43 x4_44))
def wj_X2_commonBelow_50 (h0 : xH) (post : Int32 → Prop) (Rc : Nat → Int32 → Int32 → Prop) (K58 : Int32 → Prop) (x0 : Nat) (x2 : Int32) (x3 : Int32) : Prop := ∀ (x2_52 : Int32), x2_52 = x2 + 1 → Rc x0 x3 x2_52
def wl_X2_commonBelow_4 (h0 : xH) (post : Int32 → Prop) (K58 : Int32 → Prop) : Nat → Nat → Int32 → Int32 → Prop
  | 0, _, _, _ => False
  | n + 1, x0, x1, x2 => ∃ fs_6 : List Value, h0 x0 = some (.inr (2, fs_6)) ∧ ∃ v_6 : Nat, fs_6[3]? = some (.ref v_6) ∧ ∃ (n_9 : Nat) (f_9 : Nat → Int32), h0 v_6 = some (.inl (0, n_9, .inl f_9)) ∧ ((nI n_9) ≤ x2 → K58 x1) ∧ (¬ (nI n_9) ≤ x2 → ∃ n18 : Nat, wl_X2_commonBelow_18 h0 post (fun (x0 : Nat) (x2 : Int32) (x3 : Int32) => wj_X2_commonBelow_50 h0 post (wl_X2_commonBelow_4 h0 post K58 n) K58 x0 x2 x3) n18 x0 x1 x2 x1 1)
def wp_X2_commonBelow (h0 : xH)  (x0 : Nat) (post : Int32 → Prop) : Prop := ∃ n4 : Nat, wl_X2_commonBelow_4 h0 post (fun (x1 : Int32) => post x1) n4 x0 1 0
set_option maxHeartbeats 4000000 in
set_option maxRecDepth 100000 in
theorem ml_X2_commonBelow_18 (C : CX p s m args meth c G RX2 cX2_commonBelow 5 (some .int)) (h0 : xH) (post : Int32 → Prop) (K50 : Nat → Int32 → Int32 → Prop)
    (hK50 : (∀ (x0 : Nat) (x2 : Int32) (x3 : Int32) (H : Heap) (locs : List Loc) (ls : Array Slot) (nc ns : Nat), K50 x0 x2 x3 → x_I G (x_A h0 s.heap.size) s.heap h0 H locs → nc + 0 ≤ 0 → ns + 0 ≤ 0 → lv_has ls 5 [(0, .ref x0), (2, .int x2), (3, .int x3)] → W p l e (rX2_commonBelow) s m args below meth c H locs nc ns (MQ below (x_Qi G h0 s.heap.size (fun r9 h9 => h9 = h0 ∧ post r9)) args s 0 0 (x_A h0 s.heap.size)) (F0 m 50 ls []))) :
    ∀ (n : Nat) (x0 : Nat) (x1 : Int32) (x2 : Int32) (x3 : Int32) (x4 : Int32) (H : Heap) (locs : List Loc) (ls : Array Slot) (nc ns : Nat), wl_X2_commonBelow_18 h0 post K50 n x0 x1 x2 x3 x4 → x_I G (x_A h0 s.heap.size) s.heap h0 H locs → nc + 0 ≤ 0 → ns + 0 ≤ 0 → lv_has ls 5 [(0, .ref x0), (1, .int x1), (2, .int x2), (3, .int x3), (4, .int x4)] → W p l e (rX2_commonBelow) s m args below meth c H locs nc ns (MQ below (x_Qi G h0 s.heap.size (fun r9 h9 => h9 = h0 ∧ post r9)) args s 0 0 (x_A h0 s.heap.size)) (F0 m 18 ls []) := by
  obtain ⟨hx, hb, hr, hml, hown, hg, hlocks, hK⟩ := id C
  intro n
  induction n with
  | zero => intro x0 x1 x2 x3 x4 H locs ls nc ns hw; exact absurd hw id
  | succ n ih =>
    intro x0 x1 x2 x3 x4 H locs ls nc ns hw hI hkc hks hl
    refine lv_iload hx hb dX2_commonBelow_18 (lv_at hl 4 rfl) ?_
    refine lv_aload_n hx hb dX2_commonBelow_20 rfl (lv_at hl 0 rfl) ?_
    obtain ⟨fs_21, he_21, hw⟩ := hw
    obtain ⟨v_21, hv_21, hw⟩ := hw
    refine x_get (ci := 2) (C := RX2) (T := TX2) (N := 4) hx hb hg ku_X2 hown hK hI he_21 rfl 3 (by decide) (hg _ kf_X2_20) (fun _ h9 => h9) hv_21 dX2_commonBelow_21 ?_
    refine lv_iload_n hx hb dX2_commonBelow_24 rfl (lv_at hl 2 rfl) ?_
    obtain ⟨n_25, f_25, he_25, hw⟩ := hw
    obtain ⟨hi25, hw⟩ := hw
    refine x_iald hx hb hK hI he_25 hi25 dX2_commonBelow_25 ?_
    refine lv_icmp_ge (tgt := 50) hx hb dX2_commonBelow_26 (by decide) (fun hc26 => ?_) (fun hc26 => ?_)
    · have hw := hw.1 hc26
      exact hK50 _ _ _ _ _ _ _ _ hw hI (by omega) (by omega) (lv_sub hl [0, 2, 3] rfl)
    · have hw := hw.2 hc26
      refine lv_iload_n hx hb dX2_commonBelow_29 rfl (lv_at hl 3 rfl) ?_
      refine lv_aload_n hx hb dX2_commonBelow_30 rfl (lv_at hl 0 rfl) ?_
      refine x_get (ci := 2) (C := RX2) (T := TX2) (N := 4) hx hb hg ku_X2 hown hK hI he_21 rfl 3 (by decide) (hg _ kf_X2_20) (fun _ h9 => h9) hv_21 dX2_commonBelow_31 ?_
      refine lv_iload_n hx hb dX2_commonBelow_34 rfl (lv_at hl 2 rfl) ?_
      obtain ⟨hi35, hw⟩ := hw
      refine x_iald hx hb hK hI he_25 hi35 dX2_commonBelow_35 ?_
      obtain ⟨hne36, hw⟩ := hw
      refine lv_irem hx hb dX2_commonBelow_36 hne36 ?_
      refine lv_if_eq (tgt := 50) hx hb dX2_commonBelow_37 (by decide) (fun hc37 => ?_) (fun hc37 => ?_)
      · have hw := hw.1 hc37
        exact hK50 _ _ _ _ _ _ _ _ hw hI (by omega) (by omega) (lv_sub hl [0, 2, 3] rfl)
      · have hw := hw.2 hc37
        refine lv_iload_n hx hb dX2_commonBelow_40 rfl (lv_at hl 3 rfl) ?_
        refine lv_iload_n hx hb dX2_commonBelow_41 rfl (lv_at hl 1 rfl) ?_
        refine lv_iadd hx hb dX2_commonBelow_42 ?_
        refine lv_topi (fun x3_43 ex3_43 => ?_)
        have hw := hw x3_43 ex3_43
        refine lv_istore_n (lv' := [(3, .int x3_43), (0, .ref x0), (1, .int x1), (2, .int x2), (4, .int x4)]) hx hb dX2_commonBelow_43 rfl hl (by decide) rfl (fun ls hl => ?_)
        obtain ⟨x4_44, ex4_44⟩ : ∃ y : Int32, y = x4 + 1 := ⟨_, rfl⟩
        have hw := hw x4_44 ex4_44
        refine lv_iinc (v := x4_44) (lv' := [(4, .int x4_44), (3, .int x3_43), (0, .ref x0), (1, .int x1), (2, .int x2)]) hx hb dX2_commonBelow_44 hl (k := 4) rfl (by rw [ex4_44]; rfl) (by decide) rfl (fun ls hl => ?_)
        refine lv_goto (tgt := 18) hx hb dX2_commonBelow_47 (by decide) ?_
        exact ih _ _ _ _ _ _ _ _ _ _ hw hI (by omega) (by omega) (lv_sub hl [2, 3, 4, 1, 0] rfl)
set_option maxHeartbeats 4000000 in
set_option maxRecDepth 100000 in
theorem mj_X2_commonBelow_50 (C : CX p s m args meth c G RX2 cX2_commonBelow 5 (some .int)) (h0 : xH) (post : Int32 → Prop) (Rc : Nat → Int32 → Int32 → Prop) (K58 : Int32 → Prop)
    (hRc : (∀ (x0 : Nat) (x1 : Int32) (x2 : Int32) (H : Heap) (locs : List Loc) (ls : Array Slot) (nc ns : Nat), Rc x0 x1 x2 → x_I G (x_A h0 s.heap.size) s.heap h0 H locs → nc + 0 ≤ 0 → ns + 0 ≤ 0 → lv_has ls 5 [(0, .ref x0), (1, .int x1), (2, .int x2)] → W p l e (rX2_commonBelow) s m args below meth c H locs nc ns (MQ below (x_Qi G h0 s.heap.size (fun r9 h9 => h9 = h0 ∧ post r9)) args s 0 0 (x_A h0 s.heap.size)) (F0 m 4 ls [])))
    (hK58 : (∀ (x1 : Int32) (H : Heap) (locs : List Loc) (ls : Array Slot) (nc ns : Nat), K58 x1 → x_I G (x_A h0 s.heap.size) s.heap h0 H locs → nc + 0 ≤ 0 → ns + 0 ≤ 0 → lv_has ls 5 [(1, .int x1)] → W p l e (rX2_commonBelow) s m args below meth c H locs nc ns (MQ below (x_Qi G h0 s.heap.size (fun r9 h9 => h9 = h0 ∧ post r9)) args s 0 0 (x_A h0 s.heap.size)) (F0 m 58 ls [])))
    (x0 : Nat) (x2 : Int32) (x3 : Int32) (H : Heap) (locs : List Loc) (ls : Array Slot) (nc ns : Nat) (hw : wj_X2_commonBelow_50 h0 post Rc K58 x0 x2 x3) (hI : x_I G (x_A h0 s.heap.size) s.heap h0 H locs) (hkc : nc + 0 ≤ 0) (hks : ns + 0 ≤ 0) (hl : lv_has ls 5 [(0, .ref x0), (2, .int x2), (3, .int x3)]) : W p l e (rX2_commonBelow) s m args below meth c H locs nc ns (MQ below (x_Qi G h0 s.heap.size (fun r9 h9 => h9 = h0 ∧ post r9)) args s 0 0 (x_A h0 s.heap.size)) (F0 m 50 ls []) := by
  obtain ⟨hx, hb, hr, hml, hown, hg, hlocks, hK⟩ := id C
  unfold wj_X2_commonBelow_50 at hw
  refine lv_iload_n hx hb dX2_commonBelow_50 rfl (lv_at hl 2 rfl) ?_
  refine lv_istore_n (lv' := [(1, .int x3), (0, .ref x0), (2, .int x2), (3, .int x3)]) hx hb dX2_commonBelow_51 rfl hl (by decide) rfl (fun ls hl => ?_)
  obtain ⟨x2_52, ex2_52⟩ : ∃ y : Int32, y = x2 + 1 := ⟨_, rfl⟩
  have hw := hw x2_52 ex2_52
  refine lv_iinc (v := x2_52) (lv' := [(2, .int x2_52), (1, .int x3), (0, .ref x0), (3, .int x3)]) hx hb dX2_commonBelow_52 hl (k := 2) rfl (by rw [ex2_52]; rfl) (by decide) rfl (fun ls hl => ?_)
  refine lv_goto (tgt := 4) hx hb dX2_commonBelow_55 (by decide) ?_
  exact hRc _ _ _ _ _ _ _ _ hw hI (by omega) (by omega) (lv_sub hl [2, 1, 0] rfl)
set_option maxHeartbeats 4000000 in
set_option maxRecDepth 100000 in
theorem ml_X2_commonBelow_4 (C : CX p s m args meth c G RX2 cX2_commonBelow 5 (some .int)) (h0 : xH) (post : Int32 → Prop) (K58 : Int32 → Prop)
    (hK58 : (∀ (x1 : Int32) (H : Heap) (locs : List Loc) (ls : Array Slot) (nc ns : Nat), K58 x1 → x_I G (x_A h0 s.heap.size) s.heap h0 H locs → nc + 0 ≤ 0 → ns + 0 ≤ 0 → lv_has ls 5 [(1, .int x1)] → W p l e (rX2_commonBelow) s m args below meth c H locs nc ns (MQ below (x_Qi G h0 s.heap.size (fun r9 h9 => h9 = h0 ∧ post r9)) args s 0 0 (x_A h0 s.heap.size)) (F0 m 58 ls []))) :
    ∀ (n : Nat) (x0 : Nat) (x1 : Int32) (x2 : Int32) (H : Heap) (locs : List Loc) (ls : Array Slot) (nc ns : Nat), wl_X2_commonBelow_4 h0 post K58 n x0 x1 x2 → x_I G (x_A h0 s.heap.size) s.heap h0 H locs → nc + 0 ≤ 0 → ns + 0 ≤ 0 → lv_has ls 5 [(0, .ref x0), (1, .int x1), (2, .int x2)] → W p l e (rX2_commonBelow) s m args below meth c H locs nc ns (MQ below (x_Qi G h0 s.heap.size (fun r9 h9 => h9 = h0 ∧ post r9)) args s 0 0 (x_A h0 s.heap.size)) (F0 m 4 ls []) := by
  obtain ⟨hx, hb, hr, hml, hown, hg, hlocks, hK⟩ := id C
  intro n
  induction n with
  | zero => intro x0 x1 x2 H locs ls nc ns hw; exact absurd hw id
  | succ n ih =>
    intro x0 x1 x2 H locs ls nc ns hw hI hkc hks hl
    refine lv_iload_n hx hb dX2_commonBelow_4 rfl (lv_at hl 2 rfl) ?_
    refine lv_aload_n hx hb dX2_commonBelow_5 rfl (lv_at hl 0 rfl) ?_
    obtain ⟨fs_6, he_6, hw⟩ := hw
    obtain ⟨v_6, hv_6, hw⟩ := hw
    refine x_get (ci := 2) (C := RX2) (T := TX2) (N := 4) hx hb hg ku_X2 hown hK hI he_6 rfl 3 (by decide) (hg _ kf_X2_20) (fun _ h9 => h9) hv_6 dX2_commonBelow_6 ?_
    obtain ⟨n_9, f_9, he_9, hw⟩ := hw
    refine x_alen hx hb hK hI he_9 rfl dX2_commonBelow_9 ?_
    refine W.eq (g2 := F0 m 10 ls (.int (nI n_9) :: .int x2 :: [])) rfl ?_
    refine lv_icmp_ge (tgt := 58) hx hb dX2_commonBelow_10 (by decide) (fun hc10 => ?_) (fun hc10 => ?_)
    · have hw := hw.1 hc10
      exact hK58 _ _ _ _ _ _ hw hI (by omega) (by omega) (lv_sub hl [1] rfl)
    · have hw := hw.2 hc10
      refine lv_iload_n hx hb dX2_commonBelow_13 rfl (lv_at hl 1 rfl) ?_
      refine lv_istore_n (lv' := [(3, .int x1), (0, .ref x0), (1, .int x1), (2, .int x2)]) hx hb dX2_commonBelow_14 rfl hl (by decide) rfl (fun ls hl => ?_)
      refine lv_iconst (v := 1) hx hb dX2_commonBelow_15 (by decide) ?_
      refine lv_istore (lv' := [(4, .int 1), (3, .int x1), (0, .ref x0), (1, .int x1), (2, .int x2)]) hx hb dX2_commonBelow_16 hl (by decide) rfl (fun ls hl => ?_)
      obtain ⟨n18, hw⟩ := hw
      refine ml_X2_commonBelow_18 C h0 post _ ?_ n18 _ _ _ _ _ _ _ _ _ _ hw hI (by omega) (by omega) (lv_sub hl [2, 3, 4, 1, 0] rfl)
      · intro x0 x2 x3 H locs ls nc ns hw hI hkc hks hl
        exact mj_X2_commonBelow_50 C h0 post _ _ (ih) hK58 _ _ _ _ _ _ _ _ hw hI (by omega) (by omega) (lv_sub hl [0, 1, 2] rfl)
set_option maxHeartbeats 4000000 in
set_option maxRecDepth 100000 in
theorem m_X2_commonBelow (l : Launch) (G : xG) (h0 : xH)  (x0 : Nat) (post : Int32 → Prop) (hw : wp_X2_commonBelow h0  x0 post) (sz : Nat) : Met l yX2_commonBelow (wu yX2_commonBelow cX2_commonBelow 5 (some .int)) (rX2_commonBelow) (x_Pc G [.ref x0] h0 sz) (x_Qi G h0 sz (fun r9 h9 => h9 = h0 ∧ post r9)) 0 0 (x_A h0 sz) := by
  refine Met.ofW (cc := cX2_commonBelow) (maxL := 5) (ret := (some .int)) (by decide) rfl ?_
  intro p e s m args below meth c s₁ B hml hv
  obtain ⟨rfl, hsz, hR, hK⟩ := hv
  subst hsz
  have C : CX p s m _ meth c G RX2 cX2_commonBelow 5 (some .int) := ⟨B.exec, B.bytes, B.returns, hml, findClass_of_methodNamed B.named, x_hg (atoms_spec (ws := wu yX2_commonBelow cX2_commonBelow 5 (some .int)) B.pre), B.notSynchronized, hK⟩
  obtain ⟨hx, hb, hr, hml, hown, hg, hlocks, hK⟩ := id C
  have hI : x_I G (x_A h0 s.heap.size) s.heap h0 s.heap [] := x_I.start hR
  have hkc : 0 + 0 ≤ 0 := by omega
  have hks : 0 + 0 ≤ 0 := by omega
  have hl := lv_entry ([.ref x0]) (n := 5) (Nat.le_of_ble_eq_true rfl)
  rw [lg_entry_eq]
  generalize (lg_sl ([.ref x0]) ++ List.replicate (5 - (lg_sl ([.ref x0])).length) Slot.unset).toArray = ls at hl ⊢
  have hl : lv_has ls 5 [(0, .ref x0)] := hl
  unfold wp_X2_commonBelow at hw
  refine lv_iconst (v := 1) hx hb dX2_commonBelow_0 (by decide) ?_
  refine lv_istore_n (lv' := [(1, .int 1), (0, .ref x0)]) hx hb dX2_commonBelow_1 rfl hl (by decide) rfl (fun ls hl => ?_)
  refine lv_iconst (v := 0) hx hb dX2_commonBelow_2 (by decide) ?_
  refine lv_istore_n (lv' := [(2, .int 0), (1, .int 1), (0, .ref x0)]) hx hb dX2_commonBelow_3 rfl hl (by decide) rfl (fun ls hl => ?_)
  obtain ⟨n4, hw⟩ := hw
  refine ml_X2_commonBelow_4 C h0 post _ ?_ n4 _ _ _ _ _ _ _ _ hw hI (by omega) (by omega) (lv_sub hl [2, 1, 0] rfl)
  · intro x1 H locs ls nc ns hw hI hkc hks hl
    refine lv_iload_n hx hb dX2_commonBelow_58 rfl (lv_at hl 0 rfl) ?_
    exact x_iret hx hb hr hlocks hI ⟨rfl, hw⟩ (by omega) (by omega) dX2_commonBelow_59
-- ===== ExactFilter$Part.table
abbrev rX2_table (mc ms : Nat) : Room := { frames := 3, cells := mc, slots := ms, locals := 69 }
def wl_X2_table_16  (post : Nat → xH → Prop) (K53 : xH → Nat → Nat → Nat → Int32 → Nat → Prop) : Nat → xH → Nat → Nat → Nat → Int32 → Nat → Int32 → Prop
  | 0, _, _, _, _, _, _, _ => False
  | n + 1, h, kc, ks, x0, x1, x2, x3 => ∃ fs_18 : List Value, h x0 = some (.inr (2, fs_18)) ∧ ∃ v_18 : Nat, fs_18[2]? = some (.ref v_18) ∧ ∃ (n_21 : Nat) (f_21 : Nat → Int32), h v_18 = some (.inl (0, n_21, .inl f_21)) ∧ ((nI n_21) ≤ x3 → K53 h kc ks x0 x1 x2) ∧ (¬ (nI n_21) ≤ x3 → vp_in x3 n_21 ∧ ∃ v_35 : Nat, fs_18[3]? = some (.ref v_35) ∧ ∃ (n_39 : Nat) (f_39 : Nat → Int32), h v_35 = some (.inl (0, n_39, .inl f_39)) ∧ vp_in x3 n_39 ∧ ¬ (f_39 (x3 : Int32).toNatClampNeg) = 0 ∧ ∃ mc_43 ms_43 : Nat, mc_43 ≤ kc ∧ ms_43 ≤ ks ∧ wp_X5_of h mc_43 ms_43 ((((f_21 (x3 : Int32).toNatClampNeg) * (x1 / (f_39 (x3 : Int32).toNatClampNeg))) : Int32).toInt64) (fun (r_43 : Nat) (h_43 : xH) => ∃ (n_46 : Nat) (f_46 : Nat → Option Nat), h_43 x2 = some (.inl (2, n_46, .inr (.inr (.inr (.inr f_46))))) ∧ vp_in x3 n_46 ∧ ∃ vs_46 : List Value, h_43 r_43 = some (.inr (5, vs_46)) ∧ ∀ h_46 : xH, h_46 = x_up h_43 x2 (.inl (2, n_46, .inr (.inr (.inr (.inr (va_up f_46 (x3 : Int32).toNatClampNeg (some r_43))))))) → ∀ (x3_47 : Int32), x3_47 = x3 + 1 → wl_X2_table_16  post K53 n h_46 (kc - mc_43) (ks - ms_43) x0 x1 x2 x3_47))
def wp_X2_table (h0 : xH) (mc ms : Nat) (x0 : Nat) (post : Nat → xH → Prop) : Prop := ∃ fs_1 : List Value, h0 x0 = some (.inr (2, fs_1)) ∧ wp_X2_commonBelow h0  x0 (fun (r_1 : Int32) => ∃ v_6 : Nat, fs_1[2]? = some (.ref v_6) ∧ ∃ (n_9 : Nat) (f_9 : Nat → Int32), h0 v_6 = some (.inl (0, n_9, .inl f_9)) ∧ ¬ ((nI n_9) : Int32) < 0 ∧ ∀ z_10 : Nat, ((nI n_9) : Int32).toNatClampNeg = z_10 → z_10 ≤ 60000000 ∧ 1 ≤ mc ∧ z_10 ≤ ms ∧ ∀ q_10 : Nat, x_fresh h0 q_10 → ∀ h_10 : xH, h_10 = x_up h0 q_10 (.inl (2, z_10, .inr (.inr (.inr (.inr (fun _ => none)))))) → ∃ n16 : Nat, wl_X2_table_16  post (fun (h : xH) (kc : Nat) (ks : Nat) (x0 : Nat) (x1 : Int32) (x2 : Nat) => 1 ≤ kc ∧ 5 ≤ ks ∧ ∀ q_53 : Nat, x_fresh h q_53 → ∀ h_53 : xH, h_53 = x_up h q_53 (.inr (4, [.int 0, .int 0, .null, .null, .null])) → ∃ fs_58 : List Value, h_53 x0 = some (.inr (2, fs_58)) ∧ ∃ v_58 : Int32, fs_58[0]? = some (.int v_58) ∧ ∃ v_62 : Int32, fs_58[1]? = some (.int v_62) ∧ ∃ mc_68 ms_68 : Nat, mc_68 ≤ (kc - 1) ∧ ms_68 ≤ (ks - 5) ∧ wp_X5_of h_53 mc_68 ms_68 ((x1 : Int32).toInt64) (fun (r_68 : Nat) (h_68 : xH) => ∃ mc_71 ms_71 : Nat, mc_71 ≤ ((kc - 1) - mc_68) ∧ ms_71 ≤ ((ks - 5) - ms_68) ∧ wp_X4_init h_68 mc_71 ms_71 q_53 v_58 v_62 x2 r_68 (fun (h_71 : xH) => post q_53 h_71))) n16 h_10 (mc - 1) (ms - z_10) x0 r_1 q_10 0)
set_option maxHeartbeats 4000000 in
set_option maxRecDepth 100000 in
theorem ml_X2_table_16 (C : CX p s m args meth c G RX2 cX2_table 4 (some (.object "ExactFilter$Table"))) (h0 : xH) (mc ms : Nat) (post : Nat → xH → Prop) (K53 : xH → Nat → Nat → Nat → Int32 → Nat → Prop)
    (hK53 : (∀ (h : xH) (kc : Nat) (ks : Nat) (x0 : Nat) (x1 : Int32) (x2 : Nat) (H : Heap) (locs : List Loc) (ls : Array Slot) (nc ns : Nat), K53 h kc ks x0 x1 x2 → x_I G (x_A h0 s.heap.size) s.heap h H locs → nc + kc ≤ mc → ns + ks ≤ ms → lv_has ls 4 [(0, .ref x0), (1, .int x1), (2, .ref x2)] → W p l e (rX2_table mc ms) s m args below meth c H locs nc ns (MQ below (x_Qr G h0 s.heap.size post) args s mc ms (x_A h0 s.heap.size)) (F0 m 53 ls []))) :
    ∀ (n : Nat) (h : xH) (kc : Nat) (ks : Nat) (x0 : Nat) (x1 : Int32) (x2 : Nat) (x3 : Int32) (H : Heap) (locs : List Loc) (ls : Array Slot) (nc ns : Nat), wl_X2_table_16  post K53 n h kc ks x0 x1 x2 x3 → x_I G (x_A h0 s.heap.size) s.heap h H locs → nc + kc ≤ mc → ns + ks ≤ ms → lv_has ls 4 [(0, .ref x0), (1, .int x1), (2, .ref x2), (3, .int x3)] → W p l e (rX2_table mc ms) s m args below meth c H locs nc ns (MQ below (x_Qr G h0 s.heap.size post) args s mc ms (x_A h0 s.heap.size)) (F0 m 16 ls []) := by
  obtain ⟨hx, hb, hr, hml, hown, hg, hlocks, hK⟩ := id C
  intro n
  induction n with
  | zero => intro h kc ks x0 x1 x2 x3 H locs ls nc ns hw; exact absurd hw id
  | succ n ih =>
    intro h kc ks x0 x1 x2 x3 H locs ls nc ns hw hI hkc hks hl
    refine lv_iload_n hx hb dX2_table_16 rfl (lv_at hl 3 rfl) ?_
    refine lv_aload_n hx hb dX2_table_17 rfl (lv_at hl 0 rfl) ?_
    obtain ⟨fs_18, he_18, hw⟩ := hw
    obtain ⟨v_18, hv_18, hw⟩ := hw
    refine x_get (ci := 2) (C := RX2) (T := TX2) (N := 4) hx hb hg ku_X2 hown hK hI he_18 rfl 2 (by decide) (hg _ kf_X2_16) (fun _ h9 => h9) hv_18 dX2_table_18 ?_
    obtain ⟨n_21, f_21, he_21, hw⟩ := hw
    refine x_alen hx hb hK hI he_21 rfl dX2_table_21 ?_
    refine W.eq (g2 := F0 m 22 ls (.int (nI n_21) :: .int x3 :: [])) rfl ?_
    refine lv_icmp_ge (tgt := 53) hx hb dX2_table_22 (by decide) (fun hc22 => ?_) (fun hc22 => ?_)
    · have hw := hw.1 hc22
      exact hK53 _ _ _ _ _ _ _ _ _ _ _ hw hI (by omega) (by omega) (lv_sub hl [0, 1, 2] rfl)
    · have hw := hw.2 hc22
      refine lv_aload_n hx hb dX2_table_25 rfl (lv_at hl 2 rfl) ?_
      refine lv_iload_n hx hb dX2_table_26 rfl (lv_at hl 3 rfl) ?_
      refine lv_aload_n hx hb dX2_table_27 rfl (lv_at hl 0 rfl) ?_
      refine x_get (ci := 2) (C := RX2) (T := TX2) (N := 4) hx hb hg ku_X2 hown hK hI he_18 rfl 2 (by decide) (hg _ kf_X2_16) (fun _ h9 => h9) hv_18 dX2_table_28 ?_
      refine lv_iload_n hx hb dX2_table_31 rfl (lv_at hl 3 rfl) ?_
      obtain ⟨hi32, hw⟩ := hw
      refine x_iald hx hb hK hI he_21 hi32 dX2_table_32 ?_
      refine lv_iload_n hx hb dX2_table_33 rfl (lv_at hl 1 rfl) ?_
      refine lv_aload_n hx hb dX2_table_34 rfl (lv_at hl 0 rfl) ?_
      obtain ⟨v_35, hv_35, hw⟩ := hw
      refine x_get (ci := 2) (C := RX2) (T := TX2) (N := 4) hx hb hg ku_X2 hown hK hI he_18 rfl 3 (by decide) (hg _ kf_X2_20) (fun _ h9 => h9) hv_35 dX2_table_35 ?_
      refine lv_iload_n hx hb dX2_table_38 rfl (lv_at hl 3 rfl) ?_
      obtain ⟨n_39, f_39, he_39, hw⟩ := hw
      obtain ⟨hi39, hw⟩ := hw
      refine x_iald hx hb hK hI he_39 hi39 dX2_table_39 ?_
      obtain ⟨hne40, hw⟩ := hw
      refine lv_idiv hx hb dX2_table_40 hne40 ?_
      refine lv_imul hx hb dX2_table_41 ?_
      refine lv_i2l (v := (((f_21 (x3 : Int32).toNatClampNeg) * (x1 / (f_39 (x3 : Int32).toNatClampNeg))) : Int32).toInt64) hx hb dX2_table_42 rfl ?_
      obtain ⟨mc_43, ms_43, hkc1, hks1, hw⟩ := hw
      refine x_cr (va_runS (As := [.long ((((f_21 (x3 : Int32).toNatClampNeg) * (x1 / (f_39 (x3 : Int32).toNatClampNeg))) : Int32).toInt64)]) (rest := [.int x3, .ref x2]) ⟨hx, hb, hml, hown, hg⟩ (m_X5_of l G h mc_43 ms_43 ((((f_21 (x3 : Int32).toNatClampNeg) * (x1 / (f_39 (x3 : Int32).toNatClampNeg))) : Int32).toInt64) _ hw H.size) (va_cwS 1 hg (x_gS km_X2_35 ks_X5_of kn_X5 kk_X5_of) rfl rfl rfl (by decide +kernel) ⟨Nat.le_of_ble_eq_true rfl, Nat.le_of_ble_eq_true rfl⟩) ⟨x_blind, x_pre hI hK⟩ rfl rfl hl.1 rfl (lv_room (Nat.le_of_ble_eq_true rfl)) dX2_table_43 ⟨show nc + mc_43 ≤ mc by omega, show ns + ms_43 ≤ ms by omega⟩) hI (fun r_43 h_43 H locs hw hI => ?_)
      obtain ⟨n_46, f_46, he_46, hw⟩ := hw
      obtain ⟨hi46, hw⟩ := hw
      obtain ⟨vs_46, hvs_46, hw⟩ := hw
      refine x_aast (r := (RX5, TX5, 3)) hx hb hK hI he_46 rfl hvs_46 rfl hi46 dX2_table_46 (fun H locs hI => ?_)
      obtain ⟨h_46, eh_46⟩ : ∃ z : xH, z = x_up h_43 x2 (.inl (2, n_46, .inr (.inr (.inr (.inr (va_up f_46 (x3 : Int32).toNatClampNeg (some r_43))))))) := ⟨_, rfl⟩
      rw [← eh_46] at hI
      have hw := hw h_46 eh_46
      have heh_46 : h_46 x2 = some (.inl (2, n_46, .inr (.inr (.inr (.inr (va_up f_46 (x3 : Int32).toNatClampNeg (some r_43))))))) := by rw [eh_46]; exact x_up_s
      obtain ⟨x3_47, ex3_47⟩ : ∃ y : Int32, y = x3 + 1 := ⟨_, rfl⟩
      have hw := hw x3_47 ex3_47
      refine lv_iinc (v := x3_47) (lv' := [(3, .int x3_47), (0, .ref x0), (1, .int x1), (2, .ref x2)]) hx hb dX2_table_47 hl (k := 3) rfl (by rw [ex3_47]; rfl) (by decide) rfl (fun ls hl => ?_)
      refine lv_goto (tgt := 16) hx hb dX2_table_50 (by decide) ?_
      exact ih _ _ _ _ _ _ _ _ _ _ _ _ hw hI (by omega) (by omega) (lv_sub hl [1, 2, 3, 0] rfl)
set_option maxHeartbeats 4000000 in
set_option maxRecDepth 100000 in
theorem m_X2_table (l : Launch) (G : xG) (h0 : xH) (mc ms : Nat) (x0 : Nat) (post : Nat → xH → Prop) (hw : wp_X2_table h0 mc ms x0 post) (sz : Nat) : Met l yX2_table (wu yX2_table cX2_table 4 (some (.object "ExactFilter$Table"))) (rX2_table mc ms) (x_Pc G [.ref x0] h0 sz) (x_Qr G h0 sz post) mc ms (x_A h0 sz) := by
  refine Met.ofW (cc := cX2_table) (maxL := 4) (ret := (some (.object "ExactFilter$Table"))) (by decide) rfl ?_
  intro p e s m args below meth c s₁ B hml hv
  obtain ⟨rfl, hsz, hR, hK⟩ := hv
  subst hsz
  have C : CX p s m _ meth c G RX2 cX2_table 4 (some (.object "ExactFilter$Table")) := ⟨B.exec, B.bytes, B.returns, hml, findClass_of_methodNamed B.named, x_hg (atoms_spec (ws := wu yX2_table cX2_table 4 (some (.object "ExactFilter$Table"))) B.pre), B.notSynchronized, hK⟩
  obtain ⟨hx, hb, hr, hml, hown, hg, hlocks, hK⟩ := id C
  have hI : x_I G (x_A h0 s.heap.size) s.heap h0 s.heap [] := x_I.start hR
  have hkc : 0 + mc ≤ mc := by omega
  have hks : 0 + ms ≤ ms := by omega
  have hl := lv_entry ([.ref x0]) (n := 4) (Nat.le_of_ble_eq_true rfl)
  rw [lg_entry_eq]
  generalize (lg_sl ([.ref x0]) ++ List.replicate (4 - (lg_sl ([.ref x0])).length) Slot.unset).toArray = ls at hl ⊢
  have hl : lv_has ls 4 [(0, .ref x0)] := hl
  unfold wp_X2_table at hw
  refine lv_aload_n hx hb dX2_table_0 rfl (lv_at hl 0 rfl) ?_
  obtain ⟨fs_1, he_1, hw⟩ := hw
  refine x_ci (va_runV (As := []) (rest := []) ⟨hx, hb, hml, hown, hg⟩ (m_X2_commonBelow l G h0  x0 _ hw s.heap.size) (cwV 0 hg (x_gV km_X2_29 ki_X2_commonBelow kz_X2_X2_commonBelow kn_X2 kk_X2_commonBelow) rfl rfl rfl (by decide +kernel) ⟨Nat.le_of_ble_eq_true rfl, Nat.le_of_ble_eq_true rfl⟩) ⟨x_blind, x_recv hI hK he_1 rfl rfl, x_pre hI hK⟩ rfl rfl hl.1 rfl (lv_room (Nat.le_of_ble_eq_true rfl)) dX2_table_1 ⟨show 0 + 0 ≤ mc by omega, show 0 + 0 ≤ ms by omega⟩) hI (fun r_1 h_1 H locs hw hI => ?_)
  obtain ⟨eh_1, hw⟩ := hw
  rw [eh_1] at hI
  refine lv_istore_n (lv' := [(1, .int r_1), (0, .ref x0)]) hx hb dX2_table_4 rfl hl (by decide) rfl (fun ls hl => ?_)
  refine lv_aload_n hx hb dX2_table_5 rfl (lv_at hl 1 rfl) ?_
  obtain ⟨v_6, hv_6, hw⟩ := hw
  refine x_get (ci := 2) (C := RX2) (T := TX2) (N := 4) hx hb hg ku_X2 hown hK hI he_1 rfl 2 (by decide) (hg _ kf_X2_16) (fun _ h9 => h9) hv_6 dX2_table_6 ?_
  obtain ⟨n_9, f_9, he_9, hw⟩ := hw
  refine x_alen hx hb hK hI he_9 rfl dX2_table_9 ?_
  refine W.eq (g2 := F0 m 10 ls (.int (nI n_9) :: [])) rfl ?_
  obtain ⟨hneg10, hw⟩ := hw
  obtain ⟨z_10, hz10⟩ : ∃ z : Nat, ((nI n_9) : Int32).toNatClampNeg = z := ⟨_, rfl⟩
  obtain ⟨hz210, hkc1, hks1, hw⟩ := hw z_10 hz10
  refine x_newq (t0 := 2) hx hb hown (hg _ kl_X2_33) hK.2.1 hK hI rfl hneg10 hz10 (by omega) (show 0 + 0 + 1 ≤ mc by omega) (show 0 + 0 + z_10 ≤ ms by omega) dX2_table_10 (fun q_10 H hfr10 hI => ?_)
  have hw := hw q_10 hfr10
  obtain ⟨h_10, eh_10⟩ : ∃ z : xH, z = x_up h0 q_10 (.inl (2, z_10, .inr (.inr (.inr (.inr (fun _ => none)))))) := ⟨_, rfl⟩
  rw [← eh_10] at hI
  have hw := hw h_10 eh_10
  have heh_10 : h_10 q_10 = some (.inl (2, z_10, .inr (.inr (.inr (.inr (fun _ => none)))))) := by rw [eh_10]; exact x_up_s
  refine lv_astore_n (lv' := [(2, .ref q_10), (1, .int r_1), (0, .ref x0)]) hx hb dX2_table_13 rfl hl (by decide) rfl (fun ls hl => ?_)
  refine lv_iconst (v := 0) hx hb dX2_table_14 (by decide) ?_
  refine lv_istore_n (lv' := [(3, .int 0), (2, .ref q_10), (1, .int r_1), (0, .ref x0)]) hx hb dX2_table_15 rfl hl (by decide) rfl (fun ls hl => ?_)
  obtain ⟨n16, hw⟩ := hw
  refine ml_X2_table_16 C h0 mc ms post _ ?_ n16 _ _ _ _ _ _ _ _ _ _ _ _ hw hI (by omega) (by omega) (lv_sub hl [3, 2, 1, 0] rfl)
  · intro h kc ks x0 x1 x2 H locs ls nc ns hw hI hkc hks hl
    obtain ⟨hkc1, hks1, hw⟩ := hw
    refine x_new (ci := 4) (fs := [.int 0, .int 0, .null, .null, .null]) (C := RX4) (T := TX4) (N := 5) hx hb hg ku_X4 tyX4 tyX4_ok hown (hg _ kl_X2_39) (hg _ kt_X4) (hg _ kn_X4) hK hI rfl (by decide +kernel) (show nc + 1 ≤ mc by omega) (show ns + 5 ≤ ms by omega) dX2_table_53 (fun q_53 H hfr53 hI => ?_)
    have hw := hw q_53 hfr53
    obtain ⟨h_53, eh_53⟩ : ∃ z : xH, z = x_up h q_53 (.inr (4, [.int 0, .int 0, .null, .null, .null])) := ⟨_, rfl⟩
    rw [← eh_53] at hI
    have hw := hw h_53 eh_53
    have heh_53 : h_53 q_53 = some (.inr (4, [.int 0, .int 0, .null, .null, .null])) := by rw [eh_53]; exact x_up_s
    refine lv_dup hx hb dX2_table_56 rfl ?_
    refine lv_aload_n hx hb dX2_table_57 rfl (lv_at hl 0 rfl) ?_
    obtain ⟨fs_58, he_58, hw⟩ := hw
    obtain ⟨v_58, hv_58, hw⟩ := hw
    refine x_get (ci := 2) (C := RX2) (T := TX2) (N := 4) hx hb hg ku_X2 hown hK hI he_58 rfl 0 (by decide) (hg _ kf_X2_7) (fun _ h9 => h9) hv_58 dX2_table_58 ?_
    refine lv_aload_n hx hb dX2_table_61 rfl (lv_at hl 0 rfl) ?_
    obtain ⟨v_62, hv_62, hw⟩ := hw
    refine x_get (ci := 2) (C := RX2) (T := TX2) (N := 4) hx hb hg ku_X2 hown hK hI he_58 rfl 1 (by decide) (hg _ kf_X2_13) (fun _ h9 => h9) hv_62 dX2_table_62 ?_
    refine lv_aload_n hx hb dX2_table_65 rfl (lv_at hl 2 rfl) ?_
    refine lv_iload_n hx hb dX2_table_66 rfl (lv_at hl 1 rfl) ?_
    refine lv_i2l (v := (x1 : Int32).toInt64) hx hb dX2_table_67 rfl ?_
    obtain ⟨mc_68, ms_68, hkc1, hks1, hw⟩ := hw
    refine x_cr (va_runS (As := [.long ((x1 : Int32).toInt64)]) (rest := [.ref x2, .int v_62, .int v_58, .ref q_53, .ref q_53]) ⟨hx, hb, hml, hown, hg⟩ (m_X5_of l G h_53 mc_68 ms_68 ((x1 : Int32).toInt64) _ hw H.size) (va_cwS 1 hg (x_gS km_X2_35 ks_X5_of kn_X5 kk_X5_of) rfl rfl rfl (by decide +kernel) ⟨Nat.le_of_ble_eq_true rfl, Nat.le_of_ble_eq_true rfl⟩) ⟨x_blind, x_pre hI hK⟩ rfl rfl hl.1 rfl (lv_room (Nat.le_of_ble_eq_true rfl)) dX2_table_68 ⟨show nc + 1 + mc_68 ≤ mc by omega, show ns + 5 + ms_68 ≤ ms by omega⟩) hI (fun r_68 h_68 H locs hw hI => ?_)
    obtain ⟨mc_71, ms_71, hkc1, hks1, hw⟩ := hw
    refine x_cv (va_runI (As := [.int v_58, .int v_62, .ref x2, .ref r_68]) (rest := [.ref q_53]) ⟨hx, hb, hml, hown, hg⟩ (m_X4_init l G h_68 mc_71 ms_71 q_53 v_58 v_62 x2 r_68 _ hw H.size) (cwI 4 hg (x_gI kk_X4_init) rfl rfl rfl (hg _ kn_X4) (hg _ km_X2_41) (hg _ ki_X4_init) rfl (by decide +kernel) ⟨Nat.le_of_ble_eq_true rfl, Nat.le_of_ble_eq_true rfl⟩) ⟨x_blind, x_pre hI hK⟩ rfl rfl hl.1 rfl (lv_room (Nat.le_of_ble_eq_true rfl)) dX2_table_71 ⟨show nc + 1 + mc_68 + mc_71 ≤ mc by omega, show ns + 5 + ms_68 + ms_71 ≤ ms by omega⟩) hI (fun h_71 H locs hw hI => ?_)
    exact x_aret hx hb hr (by first | exact Or.inl ⟨_, rfl⟩ | exact Or.inr ⟨_, rfl⟩) hlocks hI hw (by omega) (by omega) dX2_table_74
-- ===== ExactFilter$Model.init
abbrev rX1_init (mc ms : Nat) : Room := { frames := 2, cells := mc, slots := ms, locals := 45 }
def wj_X1_init_58  (post : xH → Prop) (Rc : xH → Nat → Nat → Nat → Int32 → Int32 → Prop) (K82 : xH → Nat → Nat → Nat → Int32 → Prop) (h : xH) (kc : Nat) (ks : Nat) (x0 : Nat) (x1 : Int32) (x2 : Int32) (x3 : Int32) (s0 : Int32) : Prop := ∃ fs_61 : List Value, h x0 = some (.inr (1, fs_61)) ∧ ∃ v_61 : Nat, fs_61[1]? = some (.ref v_61) ∧ 1 ≤ kc ∧ 4 ≤ ks ∧ ∀ q_65 : Nat, x_fresh h q_65 → ∀ h_65 : xH, h_65 = x_up h q_65 (.inr (2, [.int 0, .int 0, .null, .null])) → ∃ mc_72 ms_72 : Nat, mc_72 ≤ (kc - 1) ∧ ms_72 ≤ (ks - 4) ∧ wp_X2_init h_65 mc_72 ms_72 q_65 x3 s0 (fun (h_72 : xH) => ∃ (n_75 : Nat) (f_75 : Nat → Option Nat), h_72 v_61 = some (.inl (4, n_75, .inr (.inr (.inr (.inr f_75))))) ∧ vp_in x2 n_75 ∧ ∃ vs_75 : List Value, h_72 q_65 = some (.inr (2, vs_75)) ∧ ∀ h_75 : xH, h_75 = x_up h_72 v_61 (.inl (4, n_75, .inr (.inr (.inr (.inr (va_up f_75 (x2 : Int32).toNatClampNeg (some q_65))))))) → ∀ (x2_76 : Int32), x2_76 = x2 + 1 → Rc h_75 ((kc - 1) - mc_72) ((ks - 4) - ms_72) x0 x1 x2_76)
def wj_X1_init_53  (post : xH → Prop) (Rc : xH → Nat → Nat → Nat → Int32 → Int32 → Prop) (K82 : xH → Nat → Nat → Nat → Int32 → Prop) (h : xH) (kc : Nat) (ks : Nat) (x0 : Nat) (x1 : Int32) (x2 : Int32) (x3 : Int32) : Prop := wj_X1_init_58  post (Rc) K82 h kc ks x0 x1 x2 x3 x1
def wj_X1_init_37  (post : xH → Prop) (Rc : xH → Nat → Nat → Nat → Int32 → Int32 → Prop) (K82 : xH → Nat → Nat → Nat → Int32 → Prop) (h : xH) (kc : Nat) (ks : Nat) (x0 : Nat) (x1 : Int32) (x2 : Int32) (s0 : Int32) : Prop := (x2 = 1 → wj_X1_init_53  post (Rc) K82 h kc ks x0 x1 x2 s0) ∧ (¬ x2 = 1 → (x2 = 2 → wj_X1_init_53  post (Rc) K82 h kc ks x0 x1 x2 s0) ∧ (¬ x2 = 2 → (¬ x2 = 4 → wj_X1_init_58  post (Rc) K82 h kc ks x0 x1 x2 s0 1) ∧ (x2 = 4 → wj_X1_init_53  post (Rc) K82 h kc ks x0 x1 x2 s0)))
def wl_X1_init_20  (post : xH → Prop) (K82 : xH → Nat → Nat → Nat → Int32 → Prop) : Nat → xH → Nat → Nat → Nat → Int32 → Int32 → Prop
  | 0, _, _, _, _, _, _ => False
  | n + 1, h, kc, ks, x0, x1, x2 => (7 ≤ x2 → K82 h kc ks x0 x1) ∧ (¬ 7 ≤ x2 → (¬ x2 = 6 → wj_X1_init_37  post (wl_X1_init_20  post K82 n) K82 h kc ks x0 x1 x2 x1) ∧ (x2 = 6 → wj_X1_init_37  post (wl_X1_init_20  post K82 n) K82 h kc ks x0 x1 x2 1))
def wl_X1_init_84  (post : xH → Prop) (K134 : xH → Nat → Nat → Nat → Prop) : Nat → xH → Nat → Nat → Nat → Int32 → Int32 → Prop
  | 0, _, _, _, _, _, _ => False
  | n + 1, h, kc, ks, x0, x1, x2 => (x1 ≤ x2 → K134 h kc ks x0) ∧ (¬ x1 ≤ x2 → ∃ fs_90 : List Value, h x0 = some (.inr (1, fs_90)) ∧ ∃ v_90 : Nat, fs_90[1]? = some (.ref v_90) ∧ ∃ (n_94 : Nat) (f_94 : Nat → Option Nat), h v_90 = some (.inl (4, n_94, .inr (.inr (.inr (.inr f_94))))) ∧ vp_in 1 n_94 ∧ ∃ y_94 : Nat, (f_94 (1 : Int32).toNatClampNeg) = some y_94 ∧ ∃ fs_99 : List Value, h y_94 = some (.inr (2, fs_99)) ∧ wp_X2_put h  y_94 x2 x2 1 1 (fun (h_99 : xH) => ∃ fs_103 : List Value, h_99 x0 = some (.inr (1, fs_103)) ∧ ∃ v_103 : Nat, fs_103[1]? = some (.ref v_103) ∧ ∃ (n_107 : Nat) (f_107 : Nat → Option Nat), h_99 v_103 = some (.inl (4, n_107, .inr (.inr (.inr (.inr f_107))))) ∧ vp_in 2 n_107 ∧ ∃ y_107 : Nat, (f_107 (2 : Int32).toNatClampNeg) = some y_107 ∧ ∃ fs_112 : List Value, h_99 y_107 = some (.inr (2, fs_112)) ∧ wp_X2_put h_99  y_107 x2 x2 1 1 (fun (h_112 : xH) => ∃ fs_116 : List Value, h_112 x0 = some (.inr (1, fs_116)) ∧ ∃ v_116 : Nat, fs_116[1]? = some (.ref v_116) ∧ ∃ (n_120 : Nat) (f_120 : Nat → Option Nat), h_112 v_116 = some (.inl (4, n_120, .inr (.inr (.inr (.inr f_120))))) ∧ vp_in 5 n_120 ∧ ∃ y_120 : Nat, (f_120 (5 : Int32).toNatClampNeg) = some y_120 ∧ ∃ fs_125 : List Value, h_112 y_120 = some (.inr (2, fs_125)) ∧ wp_X2_put h_112  y_120 x2 0 1 1 (fun (h_125 : xH) => ∀ (x2_128 : Int32), x2_128 = x2 + 1 → wl_X1_init_84  post K134 n h_125 kc ks x0 x1 x2_128))))
def wp_X1_init (h0 : xH) (mc ms : Nat) (x0 : Nat) (x1 : Int32) (post : xH → Prop) : Prop := ∃ fs_6 : List Value, h0 x0 = some (.inr (1, fs_6)) ∧ 0 < (fs_6 : List Value).length ∧ ∀ h_6 : xH, h_6 = x_up h0 x0 (.inr (1, (fs_6 : List Value).set 0 (.int x1))) → ¬ (7 : Int32) < 0 ∧ ∀ z_12 : Nat, (7 : Int32).toNatClampNeg = z_12 → z_12 ≤ 60000000 ∧ 1 ≤ mc ∧ z_12 ≤ ms ∧ ∀ q_12 : Nat, x_fresh h_6 q_12 → ∀ h_12 : xH, h_12 = x_up h_6 q_12 (.inl (4, z_12, .inr (.inr (.inr (.inr (fun _ => none)))))) → ∃ fs_15 : List Value, h_12 x0 = some (.inr (1, fs_15)) ∧ 1 < (fs_15 : List Value).length ∧ ∀ h_15 : xH, h_15 = x_up h_12 x0 (.inr (1, (fs_15 : List Value).set 1 (.ref q_12))) → ∃ n20 : Nat, wl_X1_init_20  post (fun (h : xH) (kc : Nat) (ks : Nat) (x0 : Nat) (x1 : Int32) => ∃ n84 : Nat, wl_X1_init_84  post (fun (h : xH) (kc : Nat) (ks : Nat) (x0 : Nat) => ∃ fs_135 : List Value, h x0 = some (.inr (1, fs_135)) ∧ ∃ v_135 : Nat, fs_135[1]? = some (.ref v_135) ∧ ∃ (n_140 : Nat) (f_140 : Nat → Option Nat), h v_135 = some (.inl (4, n_140, .inr (.inr (.inr (.inr f_140))))) ∧ vp_in 6 n_140 ∧ ∃ y_140 : Nat, (f_140 (6 : Int32).toNatClampNeg) = some y_140 ∧ ∃ fs_145 : List Value, h y_140 = some (.inr (2, fs_145)) ∧ wp_X2_put h  y_140 0 0 1 1 (fun (h_145 : xH) => post h_145)) n84 h kc ks x0 x1 0) n20 h_15 (mc - 1) (ms - z_12) x0 x1 0
set_option maxHeartbeats 4000000 in
set_option maxRecDepth 100000 in
theorem mj_X1_init_58 (C : CX p s m args meth c G RX1 cX1_init 5 none) (hin : meth.name = "<init>") (h0 : xH) (mc ms : Nat) (post : xH → Prop) (Rc : xH → Nat → Nat → Nat → Int32 → Int32 → Prop) (K82 : xH → Nat → Nat → Nat → Int32 → Prop)
    (hRc : (∀ (h : xH) (kc : Nat) (ks : Nat) (x0 : Nat) (x1 : Int32) (x2 : Int32) (H : Heap) (locs : List Loc) (ls : Array Slot) (nc ns : Nat), Rc h kc ks x0 x1 x2 → x_I G (x_A h0 s.heap.size) s.heap h H locs → nc + kc ≤ mc → ns + ks ≤ ms → lv_has ls 5 [(0, .ref x0), (1, .int x1), (2, .int x2)] → W p l e (rX1_init mc ms) s m args below meth c H locs nc ns (MQ below (x_Qv G h0 s.heap.size post) args s mc ms (x_A h0 s.heap.size)) (F0 m 20 ls [])))
    (hK82 : (∀ (h : xH) (kc : Nat) (ks : Nat) (x0 : Nat) (x1 : Int32) (H : Heap) (locs : List Loc) (ls : Array Slot) (nc ns : Nat), K82 h kc ks x0 x1 → x_I G (x_A h0 s.heap.size) s.heap h H locs → nc + kc ≤ mc → ns + ks ≤ ms → lv_has ls 5 [(0, .ref x0), (1, .int x1)] → W p l e (rX1_init mc ms) s m args below meth c H locs nc ns (MQ below (x_Qv G h0 s.heap.size post) args s mc ms (x_A h0 s.heap.size)) (F0 m 82 ls [])))
    (h : xH) (kc : Nat) (ks : Nat) (x0 : Nat) (x1 : Int32) (x2 : Int32) (x3 : Int32) (s0 : Int32) (H : Heap) (locs : List Loc) (ls : Array Slot) (nc ns : Nat) (hw : wj_X1_init_58  post Rc K82 h kc ks x0 x1 x2 x3 s0) (hI : x_I G (x_A h0 s.heap.size) s.heap h H locs) (hkc : nc + kc ≤ mc) (hks : ns + ks ≤ ms) (hl : lv_has ls 5 [(0, .ref x0), (1, .int x1), (2, .int x2), (3, .int x3)]) : W p l e (rX1_init mc ms) s m args below meth c H locs nc ns (MQ below (x_Qv G h0 s.heap.size post) args s mc ms (x_A h0 s.heap.size)) (F0 m 58 ls [.int s0]) := by
  obtain ⟨hx, hb, hr, hml, hown, hg, hlocks, hK⟩ := id C
  unfold wj_X1_init_58 at hw
  refine lv_istore (lv' := [(4, .int s0), (0, .ref x0), (1, .int x1), (2, .int x2), (3, .int x3)]) hx hb dX1_init_58 hl (by decide) rfl (fun ls hl => ?_)
  refine lv_aload_n hx hb dX1_init_60 rfl (lv_at hl 1 rfl) ?_
  obtain ⟨fs_61, he_61, hw⟩ := hw
  obtain ⟨v_61, hv_61, hw⟩ := hw
  refine x_get (ci := 1) (C := RX1) (T := TX1) (N := 2) hx hb hg ku_X1 hown hK hI he_61 rfl 1 (by decide) (hg _ kf_X1_15) (fun _ h9 => h9) hv_61 dX1_init_61 ?_
  refine lv_iload_n hx hb dX1_init_64 rfl (lv_at hl 3 rfl) ?_
  obtain ⟨hkc1, hks1, hw⟩ := hw
  refine x_new (ci := 2) (fs := [.int 0, .int 0, .null, .null]) (C := RX2) (T := TX2) (N := 4) hx hb hg ku_X2 tyX2 tyX2_ok hown (hg _ kl_X1_13) (hg _ kt_X2) (hg _ kn_X2) hK hI rfl (by decide +kernel) (show nc + 1 ≤ mc by omega) (show ns + 4 ≤ ms by omega) dX1_init_65 (fun q_65 H hfr65 hI => ?_)
  have hw := hw q_65 hfr65
  obtain ⟨h_65, eh_65⟩ : ∃ z : xH, z = x_up h q_65 (.inr (2, [.int 0, .int 0, .null, .null])) := ⟨_, rfl⟩
  rw [← eh_65] at hI
  have hw := hw h_65 eh_65
  have heh_65 : h_65 q_65 = some (.inr (2, [.int 0, .int 0, .null, .null])) := by rw [eh_65]; exact x_up_s
  refine lv_dup hx hb dX1_init_68 rfl ?_
  refine lv_iload_n hx hb dX1_init_69 rfl (lv_at hl 4 rfl) ?_
  refine lv_iload hx hb dX1_init_70 (lv_at hl 0 rfl) ?_
  obtain ⟨mc_72, ms_72, hkc1, hks1, hw⟩ := hw
  refine x_cv (va_runI (As := [.int x3, .int s0]) (rest := [.ref q_65, .int x2, .ref v_61]) ⟨hx, hb, hml, hown, hg⟩ (m_X2_init l G h_65 mc_72 ms_72 q_65 x3 s0 _ hw H.size) (cwI 2 hg (x_gI kk_X2_init) rfl rfl rfl (hg _ kn_X2) (hg _ km_X1_19) (hg _ ki_X2_init) rfl (by decide +kernel) ⟨Nat.le_of_ble_eq_true rfl, Nat.le_of_ble_eq_true rfl⟩) ⟨x_blind, x_pre hI hK⟩ rfl rfl hl.1 rfl (lv_room (Nat.le_of_ble_eq_true rfl)) dX1_init_72 ⟨show nc + 1 + mc_72 ≤ mc by omega, show ns + 4 + ms_72 ≤ ms by omega⟩) hI (fun h_72 H locs hw hI => ?_)
  obtain ⟨n_75, f_75, he_75, hw⟩ := hw
  obtain ⟨hi75, hw⟩ := hw
  obtain ⟨vs_75, hvs_75, hw⟩ := hw
  refine x_aast (r := (RX2, TX2, 4)) hx hb hK hI he_75 rfl hvs_75 rfl hi75 dX1_init_75 (fun H locs hI => ?_)
  obtain ⟨h_75, eh_75⟩ : ∃ z : xH, z = x_up h_72 v_61 (.inl (4, n_75, .inr (.inr (.inr (.inr (va_up f_75 (x2 : Int32).toNatClampNeg (some q_65))))))) := ⟨_, rfl⟩
  rw [← eh_75] at hI
  have hw := hw h_75 eh_75
  have heh_75 : h_75 v_61 = some (.inl (4, n_75, .inr (.inr (.inr (.inr (va_up f_75 (x2 : Int32).toNatClampNeg (some q_65))))))) := by rw [eh_75]; exact x_up_s
  obtain ⟨x2_76, ex2_76⟩ : ∃ y : Int32, y = x2 + 1 := ⟨_, rfl⟩
  have hw := hw x2_76 ex2_76
  refine lv_iinc (v := x2_76) (lv' := [(2, .int x2_76), (4, .int s0), (0, .ref x0), (1, .int x1), (3, .int x3)]) hx hb dX1_init_76 hl (k := 3) rfl (by rw [ex2_76]; rfl) (by decide) rfl (fun ls hl => ?_)
  refine lv_goto (tgt := 20) hx hb dX1_init_79 (by decide) ?_
  exact hRc _ _ _ _ _ _ _ _ _ _ _ hw hI (by omega) (by omega) (lv_sub hl [2, 3, 0] rfl)
set_option maxHeartbeats 4000000 in
set_option maxRecDepth 100000 in
theorem mj_X1_init_53 (C : CX p s m args meth c G RX1 cX1_init 5 none) (hin : meth.name = "<init>") (h0 : xH) (mc ms : Nat) (post : xH → Prop) (Rc : xH → Nat → Nat → Nat → Int32 → Int32 → Prop) (K82 : xH → Nat → Nat → Nat → Int32 → Prop)
    (hRc : (∀ (h : xH) (kc : Nat) (ks : Nat) (x0 : Nat) (x1 : Int32) (x2 : Int32) (H : Heap) (locs : List Loc) (ls : Array Slot) (nc ns : Nat), Rc h kc ks x0 x1 x2 → x_I G (x_A h0 s.heap.size) s.heap h H locs → nc + kc ≤ mc → ns + ks ≤ ms → lv_has ls 5 [(0, .ref x0), (1, .int x1), (2, .int x2)] → W p l e (rX1_init mc ms) s m args below meth c H locs nc ns (MQ below (x_Qv G h0 s.heap.size post) args s mc ms (x_A h0 s.heap.size)) (F0 m 20 ls [])))
    (hK82 : (∀ (h : xH) (kc : Nat) (ks : Nat) (x0 : Nat) (x1 : Int32) (H : Heap) (locs : List Loc) (ls : Array Slot) (nc ns : Nat), K82 h kc ks x0 x1 → x_I G (x_A h0 s.heap.size) s.heap h H locs → nc + kc ≤ mc → ns + ks ≤ ms → lv_has ls 5 [(0, .ref x0), (1, .int x1)] → W p l e (rX1_init mc ms) s m args below meth c H locs nc ns (MQ below (x_Qv G h0 s.heap.size post) args s mc ms (x_A h0 s.heap.size)) (F0 m 82 ls [])))
    (h : xH) (kc : Nat) (ks : Nat) (x0 : Nat) (x1 : Int32) (x2 : Int32) (x3 : Int32) (H : Heap) (locs : List Loc) (ls : Array Slot) (nc ns : Nat) (hw : wj_X1_init_53  post Rc K82 h kc ks x0 x1 x2 x3) (hI : x_I G (x_A h0 s.heap.size) s.heap h H locs) (hkc : nc + kc ≤ mc) (hks : ns + ks ≤ ms) (hl : lv_has ls 5 [(0, .ref x0), (1, .int x1), (2, .int x2), (3, .int x3)]) : W p l e (rX1_init mc ms) s m args below meth c H locs nc ns (MQ below (x_Qv G h0 s.heap.size post) args s mc ms (x_A h0 s.heap.size)) (F0 m 53 ls []) := by
  obtain ⟨hx, hb, hr, hml, hown, hg, hlocks, hK⟩ := id C
  unfold wj_X1_init_53 at hw
  refine lv_iload_n hx hb dX1_init_53 rfl (lv_at hl 1 rfl) ?_
  refine lv_goto (tgt := 58) hx hb dX1_init_54 (by decide) ?_
  exact mj_X1_init_58 C hin h0 mc ms post _ _ (hRc) hK82 _ _ _ _ _ _ _ _ _ _ _ _ _ hw hI (by omega) (by omega) (lv_sub hl [0, 1, 2, 3] rfl)
set_option maxHeartbeats 4000000 in
set_option maxRecDepth 100000 in
theorem mj_X1_init_37 (C : CX p s m args meth c G RX1 cX1_init 5 none) (hin : meth.name = "<init>") (h0 : xH) (mc ms : Nat) (post : xH → Prop) (Rc : xH → Nat → Nat → Nat → Int32 → Int32 → Prop) (K82 : xH → Nat → Nat → Nat → Int32 → Prop)
    (hRc : (∀ (h : xH) (kc : Nat) (ks : Nat) (x0 : Nat) (x1 : Int32) (x2 : Int32) (H : Heap) (locs : List Loc) (ls : Array Slot) (nc ns : Nat), Rc h kc ks x0 x1 x2 → x_I G (x_A h0 s.heap.size) s.heap h H locs → nc + kc ≤ mc → ns + ks ≤ ms → lv_has ls 5 [(0, .ref x0), (1, .int x1), (2, .int x2)] → W p l e (rX1_init mc ms) s m args below meth c H locs nc ns (MQ below (x_Qv G h0 s.heap.size post) args s mc ms (x_A h0 s.heap.size)) (F0 m 20 ls [])))
    (hK82 : (∀ (h : xH) (kc : Nat) (ks : Nat) (x0 : Nat) (x1 : Int32) (H : Heap) (locs : List Loc) (ls : Array Slot) (nc ns : Nat), K82 h kc ks x0 x1 → x_I G (x_A h0 s.heap.size) s.heap h H locs → nc + kc ≤ mc → ns + ks ≤ ms → lv_has ls 5 [(0, .ref x0), (1, .int x1)] → W p l e (rX1_init mc ms) s m args below meth c H locs nc ns (MQ below (x_Qv G h0 s.heap.size post) args s mc ms (x_A h0 s.heap.size)) (F0 m 82 ls [])))
    (h : xH) (kc : Nat) (ks : Nat) (x0 : Nat) (x1 : Int32) (x2 : Int32) (s0 : Int32) (H : Heap) (locs : List Loc) (ls : Array Slot) (nc ns : Nat) (hw : wj_X1_init_37  post Rc K82 h kc ks x0 x1 x2 s0) (hI : x_I G (x_A h0 s.heap.size) s.heap h H locs) (hkc : nc + kc ≤ mc) (hks : ns + ks ≤ ms) (hl : lv_has ls 5 [(0, .ref x0), (1, .int x1), (2, .int x2)]) : W p l e (rX1_init mc ms) s m args below meth c H locs nc ns (MQ below (x_Qv G h0 s.heap.size post) args s mc ms (x_A h0 s.heap.size)) (F0 m 37 ls [.int s0]) := by
  obtain ⟨hx, hb, hr, hml, hown, hg, hlocks, hK⟩ := id C
  unfold wj_X1_init_37 at hw
  refine lv_istore_n (lv' := [(3, .int s0), (0, .ref x0), (1, .int x1), (2, .int x2)]) hx hb dX1_init_37 rfl hl (by decide) rfl (fun ls hl => ?_)
  refine lv_iload_n hx hb dX1_init_38 rfl (lv_at hl 3 rfl) ?_
  refine lv_iconst (v := 1) hx hb dX1_init_39 (by decide) ?_
  refine lv_icmp_eq (tgt := 53) hx hb dX1_init_40 (by decide) (fun hc40 => ?_) (fun hc40 => ?_)
  · have hw := hw.1 hc40
    exact mj_X1_init_53 C hin h0 mc ms post _ _ (hRc) hK82 _ _ _ _ _ _ _ _ _ _ _ _ hw hI (by omega) (by omega) (lv_sub hl [1, 2, 3, 0] rfl)
  · have hw := hw.2 hc40
    refine lv_iload_n hx hb dX1_init_43 rfl (lv_at hl 3 rfl) ?_
    refine lv_iconst (v := 2) hx hb dX1_init_44 (by decide) ?_
    refine lv_icmp_eq (tgt := 53) hx hb dX1_init_45 (by decide) (fun hc45 => ?_) (fun hc45 => ?_)
    · have hw := hw.1 hc45
      exact mj_X1_init_53 C hin h0 mc ms post _ _ (hRc) hK82 _ _ _ _ _ _ _ _ _ _ _ _ hw hI (by omega) (by omega) (lv_sub hl [1, 2, 3, 0] rfl)
    · have hw := hw.2 hc45
      refine lv_iload_n hx hb dX1_init_48 rfl (lv_at hl 3 rfl) ?_
      refine lv_iconst (v := 4) hx hb dX1_init_49 (by decide) ?_
      refine lv_icmp_ne (tgt := 57) hx hb dX1_init_50 (by decide) (fun hc50 => ?_) (fun hc50 => ?_)
      · have hw := hw.1 hc50
        refine lv_iconst (v := 1) hx hb dX1_init_57 (by decide) ?_
        exact mj_X1_init_58 C hin h0 mc ms post _ _ (hRc) hK82 _ _ _ _ _ _ _ _ _ _ _ _ _ hw hI (by omega) (by omega) (lv_sub hl [1, 2, 3, 0] rfl)
      · have hw := hw.2 hc50
        exact mj_X1_init_53 C hin h0 mc ms post _ _ (hRc) hK82 _ _ _ _ _ _ _ _ _ _ _ _ hw hI (by omega) (by omega) (lv_sub hl [1, 2, 3, 0] rfl)
set_option maxHeartbeats 4000000 in
set_option maxRecDepth 100000 in
theorem ml_X1_init_20 (C : CX p s m args meth c G RX1 cX1_init 5 none) (hin : meth.name = "<init>") (h0 : xH) (mc ms : Nat) (post : xH → Prop) (K82 : xH → Nat → Nat → Nat → Int32 → Prop)
    (hK82 : (∀ (h : xH) (kc : Nat) (ks : Nat) (x0 : Nat) (x1 : Int32) (H : Heap) (locs : List Loc) (ls : Array Slot) (nc ns : Nat), K82 h kc ks x0 x1 → x_I G (x_A h0 s.heap.size) s.heap h H locs → nc + kc ≤ mc → ns + ks ≤ ms → lv_has ls 5 [(0, .ref x0), (1, .int x1)] → W p l e (rX1_init mc ms) s m args below meth c H locs nc ns (MQ below (x_Qv G h0 s.heap.size post) args s mc ms (x_A h0 s.heap.size)) (F0 m 82 ls []))) :
    ∀ (n : Nat) (h : xH) (kc : Nat) (ks : Nat) (x0 : Nat) (x1 : Int32) (x2 : Int32) (H : Heap) (locs : List Loc) (ls : Array Slot) (nc ns : Nat), wl_X1_init_20  post K82 n h kc ks x0 x1 x2 → x_I G (x_A h0 s.heap.size) s.heap h H locs → nc + kc ≤ mc → ns + ks ≤ ms → lv_has ls 5 [(0, .ref x0), (1, .int x1), (2, .int x2)] → W p l e (rX1_init mc ms) s m args below meth c H locs nc ns (MQ below (x_Qv G h0 s.heap.size post) args s mc ms (x_A h0 s.heap.size)) (F0 m 20 ls []) := by
  obtain ⟨hx, hb, hr, hml, hown, hg, hlocks, hK⟩ := id C
  intro n
  induction n with
  | zero => intro h kc ks x0 x1 x2 H locs ls nc ns hw; exact absurd hw id
  | succ n ih =>
    intro h kc ks x0 x1 x2 H locs ls nc ns hw hI hkc hks hl
    refine lv_iload_n hx hb dX1_init_20 rfl (lv_at hl 2 rfl) ?_
    refine lv_bipush (v := 7) hx hb dX1_init_21 (by decide) ?_
    refine lv_icmp_ge (tgt := 82) hx hb dX1_init_23 (by decide) (fun hc23 => ?_) (fun hc23 => ?_)
    · have hw := hw.1 hc23
      exact hK82 _ _ _ _ _ _ _ _ _ _ hw hI (by omega) (by omega) (lv_sub hl [0, 1] rfl)
    · have hw := hw.2 hc23
      refine lv_iload_n hx hb dX1_init_26 rfl (lv_at hl 2 rfl) ?_
      refine lv_bipush (v := 6) hx hb dX1_init_27 (by decide) ?_
      refine lv_icmp_ne (tgt := 36) hx hb dX1_init_29 (by decide) (fun hc29 => ?_) (fun hc29 => ?_)
      · have hw := hw.1 hc29
        refine lv_iload_n hx hb dX1_init_36 rfl (lv_at hl 1 rfl) ?_
        exact mj_X1_init_37 C hin h0 mc ms post _ _ (ih) hK82 _ _ _ _ _ _ _ _ _ _ _ _ hw hI (by omega) (by omega) (lv_sub hl [0, 1, 2] rfl)
      · have hw := hw.2 hc29
        refine lv_iconst (v := 1) hx hb dX1_init_32 (by decide) ?_
        refine lv_goto (tgt := 37) hx hb dX1_init_33 (by decide) ?_
        exact mj_X1_init_37 C hin h0 mc ms post _ _ (ih) hK82 _ _ _ _ _ _ _ _ _ _ _ _ hw hI (by omega) (by omega) (lv_sub hl [0, 1, 2] rfl)
set_option maxHeartbeats 4000000 in
set_option maxRecDepth 100000 in
theorem ml_X1_init_84 (C : CX p s m args meth c G RX1 cX1_init 5 none) (hin : meth.name = "<init>") (h0 : xH) (mc ms : Nat) (post : xH → Prop) (K134 : xH → Nat → Nat → Nat → Prop)
    (hK134 : (∀ (h : xH) (kc : Nat) (ks : Nat) (x0 : Nat) (H : Heap) (locs : List Loc) (ls : Array Slot) (nc ns : Nat), K134 h kc ks x0 → x_I G (x_A h0 s.heap.size) s.heap h H locs → nc + kc ≤ mc → ns + ks ≤ ms → lv_has ls 5 [(0, .ref x0)] → W p l e (rX1_init mc ms) s m args below meth c H locs nc ns (MQ below (x_Qv G h0 s.heap.size post) args s mc ms (x_A h0 s.heap.size)) (F0 m 134 ls []))) :
    ∀ (n : Nat) (h : xH) (kc : Nat) (ks : Nat) (x0 : Nat) (x1 : Int32) (x2 : Int32) (H : Heap) (locs : List Loc) (ls : Array Slot) (nc ns : Nat), wl_X1_init_84  post K134 n h kc ks x0 x1 x2 → x_I G (x_A h0 s.heap.size) s.heap h H locs → nc + kc ≤ mc → ns + ks ≤ ms → lv_has ls 5 [(0, .ref x0), (1, .int x1), (2, .int x2)] → W p l e (rX1_init mc ms) s m args below meth c H locs nc ns (MQ below (x_Qv G h0 s.heap.size post) args s mc ms (x_A h0 s.heap.size)) (F0 m 84 ls []) := by
  obtain ⟨hx, hb, hr, hml, hown, hg, hlocks, hK⟩ := id C
  intro n
  induction n with
  | zero => intro h kc ks x0 x1 x2 H locs ls nc ns hw; exact absurd hw id
  | succ n ih =>
    intro h kc ks x0 x1 x2 H locs ls nc ns hw hI hkc hks hl
    refine lv_iload_n hx hb dX1_init_84 rfl (lv_at hl 2 rfl) ?_
    refine lv_iload_n hx hb dX1_init_85 rfl (lv_at hl 1 rfl) ?_
    refine lv_icmp_ge (tgt := 134) hx hb dX1_init_86 (by decide) (fun hc86 => ?_) (fun hc86 => ?_)
    · have hw := hw.1 hc86
      exact hK134 _ _ _ _ _ _ _ _ _ hw hI (by omega) (by omega) (lv_sub hl [0] rfl)
    · have hw := hw.2 hc86
      refine lv_aload_n hx hb dX1_init_89 rfl (lv_at hl 0 rfl) ?_
      obtain ⟨fs_90, he_90, hw⟩ := hw
      obtain ⟨v_90, hv_90, hw⟩ := hw
      refine x_get (ci := 1) (C := RX1) (T := TX1) (N := 2) hx hb hg ku_X1 hown hK hI he_90 rfl 1 (by decide) (hg _ kf_X1_15) (fun _ h9 => h9) hv_90 dX1_init_90 ?_
      refine lv_iconst (v := 1) hx hb dX1_init_93 (by decide) ?_
      obtain ⟨n_94, f_94, he_94, hw⟩ := hw
      obtain ⟨hi94, hw⟩ := hw
      refine x_aald hx hb hK hI he_94 rfl hi94 dX1_init_94 ?_
      obtain ⟨y_94, ho94, hw⟩ := hw
      rw [ho94]
      refine W.eq (g2 := F0 m 95 ls (.ref y_94 :: [])) rfl ?_
      refine lv_iload_n hx hb dX1_init_95 rfl (lv_at hl 2 rfl) ?_
      refine lv_iload_n hx hb dX1_init_96 rfl (lv_at hl 2 rfl) ?_
      refine lv_iconst (v := 1) hx hb dX1_init_97 (by decide) ?_
      refine lv_iconst (v := 1) hx hb dX1_init_98 (by decide) ?_
      obtain ⟨fs_99, he_99, hw⟩ := hw
      refine x_cv (va_runV (As := [.int x2, .int x2, .int 1, .int 1]) (rest := []) ⟨hx, hb, hml, hown, hg⟩ (m_X2_put l G h  y_94 x2 x2 1 1 _ hw H.size) (cwV 4 hg (x_gV km_X1_22 ki_X2_put kz_X2_X2_put kn_X2 kk_X2_put) rfl rfl rfl (by decide +kernel) ⟨Nat.le_of_ble_eq_true rfl, Nat.le_of_ble_eq_true rfl⟩) ⟨x_blind, x_recv hI hK he_99 rfl rfl, x_pre hI hK⟩ rfl rfl hl.1 rfl (lv_room (Nat.le_of_ble_eq_true rfl)) dX1_init_99 ⟨show nc + 0 ≤ mc by omega, show ns + 0 ≤ ms by omega⟩) hI (fun h_99 H locs hw hI => ?_)
      refine lv_aload_n hx hb dX1_init_102 rfl (lv_at hl 0 rfl) ?_
      obtain ⟨fs_103, he_103, hw⟩ := hw
      obtain ⟨v_103, hv_103, hw⟩ := hw
      refine x_get (ci := 1) (C := RX1) (T := TX1) (N := 2) hx hb hg ku_X1 hown hK hI he_103 rfl 1 (by decide) (hg _ kf_X1_15) (fun _ h9 => h9) hv_103 dX1_init_103 ?_
      refine lv_iconst (v := 2) hx hb dX1_init_106 (by decide) ?_
      obtain ⟨n_107, f_107, he_107, hw⟩ := hw
      obtain ⟨hi107, hw⟩ := hw
      refine x_aald hx hb hK hI he_107 rfl hi107 dX1_init_107 ?_
      obtain ⟨y_107, ho107, hw⟩ := hw
      rw [ho107]
      refine W.eq (g2 := F0 m 108 ls (.ref y_107 :: [])) rfl ?_
      refine lv_iload_n hx hb dX1_init_108 rfl (lv_at hl 2 rfl) ?_
      refine lv_iload_n hx hb dX1_init_109 rfl (lv_at hl 2 rfl) ?_
      refine lv_iconst (v := 1) hx hb dX1_init_110 (by decide) ?_
      refine lv_iconst (v := 1) hx hb dX1_init_111 (by decide) ?_
      obtain ⟨fs_112, he_112, hw⟩ := hw
      refine x_cv (va_runV (As := [.int x2, .int x2, .int 1, .int 1]) (rest := []) ⟨hx, hb, hml, hown, hg⟩ (m_X2_put l G h_99  y_107 x2 x2 1 1 _ hw H.size) (cwV 4 hg (x_gV km_X1_22 ki_X2_put kz_X2_X2_put kn_X2 kk_X2_put) rfl rfl rfl (by decide +kernel) ⟨Nat.le_of_ble_eq_true rfl, Nat.le_of_ble_eq_true rfl⟩) ⟨x_blind, x_recv hI hK he_112 rfl rfl, x_pre hI hK⟩ rfl rfl hl.1 rfl (lv_room (Nat.le_of_ble_eq_true rfl)) dX1_init_112 ⟨show nc + 0 + 0 ≤ mc by omega, show ns + 0 + 0 ≤ ms by omega⟩) hI (fun h_112 H locs hw hI => ?_)
      refine lv_aload_n hx hb dX1_init_115 rfl (lv_at hl 0 rfl) ?_
      obtain ⟨fs_116, he_116, hw⟩ := hw
      obtain ⟨v_116, hv_116, hw⟩ := hw
      refine x_get (ci := 1) (C := RX1) (T := TX1) (N := 2) hx hb hg ku_X1 hown hK hI he_116 rfl 1 (by decide) (hg _ kf_X1_15) (fun _ h9 => h9) hv_116 dX1_init_116 ?_
      refine lv_iconst (v := 5) hx hb dX1_init_119 (by decide) ?_
      obtain ⟨n_120, f_120, he_120, hw⟩ := hw
      obtain ⟨hi120, hw⟩ := hw
      refine x_aald hx hb hK hI he_120 rfl hi120 dX1_init_120 ?_
      obtain ⟨y_120, ho120, hw⟩ := hw
      rw [ho120]
      refine W.eq (g2 := F0 m 121 ls (.ref y_120 :: [])) rfl ?_
      refine lv_iload_n hx hb dX1_init_121 rfl (lv_at hl 2 rfl) ?_
      refine lv_iconst (v := 0) hx hb dX1_init_122 (by decide) ?_
      refine lv_iconst (v := 1) hx hb dX1_init_123 (by decide) ?_
      refine lv_iconst (v := 1) hx hb dX1_init_124 (by decide) ?_
      obtain ⟨fs_125, he_125, hw⟩ := hw
      refine x_cv (va_runV (As := [.int x2, .int 0, .int 1, .int 1]) (rest := []) ⟨hx, hb, hml, hown, hg⟩ (m_X2_put l G h_112  y_120 x2 0 1 1 _ hw H.size) (cwV 4 hg (x_gV km_X1_22 ki_X2_put kz_X2_X2_put kn_X2 kk_X2_put) rfl rfl rfl (by decide +kernel) ⟨Nat.le_of_ble_eq_true rfl, Nat.le_of_ble_eq_true rfl⟩) ⟨x_blind, x_recv hI hK he_125 rfl rfl, x_pre hI hK⟩ rfl rfl hl.1 rfl (lv_room (Nat.le_of_ble_eq_true rfl)) dX1_init_125 ⟨show nc + 0 + 0 + 0 ≤ mc by omega, show ns + 0 + 0 + 0 ≤ ms by omega⟩) hI (fun h_125 H locs hw hI => ?_)
      obtain ⟨x2_128, ex2_128⟩ : ∃ y : Int32, y = x2 + 1 := ⟨_, rfl⟩
      have hw := hw x2_128 ex2_128
      refine lv_iinc (v := x2_128) (lv' := [(2, .int x2_128), (0, .ref x0), (1, .int x1)]) hx hb dX1_init_128 hl (k := 2) rfl (by rw [ex2_128]; rfl) (by decide) rfl (fun ls hl => ?_)
      refine lv_goto (tgt := 84) hx hb dX1_init_131 (by decide) ?_
      exact ih _ _ _ _ _ _ _ _ _ _ _ hw hI (by omega) (by omega) (lv_sub hl [1, 2, 0] rfl)
set_option maxHeartbeats 4000000 in
set_option maxRecDepth 100000 in
theorem m_X1_init (l : Launch) (G : xG) (h0 : xH) (mc ms : Nat) (x0 : Nat) (x1 : Int32) (post : xH → Prop) (hw : wp_X1_init h0 mc ms x0 x1 post) (sz : Nat) : Met l yX1_init (wu yX1_init cX1_init 5 none) (rX1_init mc ms) (x_Pc G [.ref x0, .int x1] h0 sz) (x_Qv G h0 sz post) mc ms (x_A h0 sz) := by
  refine Met.ofW (cc := cX1_init) (maxL := 5) (ret := none) (by decide) rfl ?_
  intro p e s m args below meth c s₁ B hml hv
  obtain ⟨rfl, hsz, hR, hK⟩ := hv
  subst hsz
  have C : CX p s m _ meth c G RX1 cX1_init 5 none := ⟨B.exec, B.bytes, B.returns, hml, findClass_of_methodNamed B.named, x_hg (atoms_spec (ws := wu yX1_init cX1_init 5 none) B.pre), B.notSynchronized, hK⟩
  obtain ⟨hx, hb, hr, hml, hown, hg, hlocks, hK⟩ := id C
  have hin : meth.name = "<init>" := (name_of_methodNamed B.named B.method).1
  have hI : x_I G (x_A h0 s.heap.size) s.heap h0 s.heap [] := x_I.start hR
  have hkc : 0 + mc ≤ mc := by omega
  have hks : 0 + ms ≤ ms := by omega
  have hl := lv_entry ([.ref x0, .int x1]) (n := 5) (Nat.le_of_ble_eq_true rfl)
  rw [lg_entry_eq]
  generalize (lg_sl ([.ref x0, .int x1]) ++ List.replicate (5 - (lg_sl ([.ref x0, .int x1])).length) Slot.unset).toArray = ls at hl ⊢
  have hl : lv_has ls 5 [(0, .ref x0), (1, .int x1)] := hl
  unfold wp_X1_init at hw
  refine lv_aload_n hx hb dX1_init_0 rfl (lv_at hl 0 rfl) ?_
  refine W.objInit hx hb hown (hg _ km_X1_1) (hg _ ki_java_lang_Object__init____V) (hg _ kk_java_lang_Object__init____V) rfl (by rw [hml]; exact hl.1) rfl dX1_init_1 (Nat.le_of_ble_eq_true rfl) (Nat.le_of_ble_eq_true rfl) ?_
  refine W.eq (g2 := F0 m 4 ls []) rfl ?_
  refine lv_aload_n hx hb dX1_init_4 rfl (lv_at hl 0 rfl) ?_
  refine lv_iload_n hx hb dX1_init_5 rfl (lv_at hl 1 rfl) ?_
  obtain ⟨fs_6, he_6, hw⟩ := hw
  obtain ⟨hlen6, hw⟩ := hw
  refine x_putF (ci := 1) (v := .int x1) (ty := .int) (C := RX1) (T := TX1) (N := 2) hx hb hg ku_X1 tyX1 tyX1_ok nmX1 hown hK hI he_6 rfl 0 (by decide) (hg _ kf_X1_7) (fun _ h9 => h9) rfl hin rfl (by decide +kernel) rfl rfl hlen6 dX1_init_6 (fun H locs hI => ?_)
  have hI : x_I G (x_A h0 s.heap.size) s.heap (x_up h0 x0 (.inr (1, (fs_6 : List Value).set 0 (.int x1)))) H locs := hI
  obtain ⟨h_6, eh_6⟩ : ∃ z : xH, z = x_up h0 x0 (.inr (1, (fs_6 : List Value).set 0 (.int x1))) := ⟨_, rfl⟩
  rw [← eh_6] at hI
  have hw := hw h_6 eh_6
  have heh_6 : h_6 x0 = some (.inr (1, (fs_6 : List Value).set 0 (.int x1))) := by rw [eh_6]; exact x_up_s
  refine lv_aload_n hx hb dX1_init_9 rfl (lv_at hl 0 rfl) ?_
  refine lv_bipush (v := 7) hx hb dX1_init_10 (by decide) ?_
  obtain ⟨hneg12, hw⟩ := hw
  obtain ⟨z_12, hz12⟩ : ∃ z : Nat, (7 : Int32).toNatClampNeg = z := ⟨_, rfl⟩
  obtain ⟨hz212, hkc1, hks1, hw⟩ := hw z_12 hz12
  refine x_newq (t0 := 4) hx hb hown (hg _ kl_X1_13) hK.2.2.2.1 hK hI rfl hneg12 hz12 (by omega) (show 0 + 1 ≤ mc by omega) (show 0 + z_12 ≤ ms by omega) dX1_init_12 (fun q_12 H hfr12 hI => ?_)
  have hw := hw q_12 hfr12
  obtain ⟨h_12, eh_12⟩ : ∃ z : xH, z = x_up h_6 q_12 (.inl (4, z_12, .inr (.inr (.inr (.inr (fun _ => none)))))) := ⟨_, rfl⟩
  rw [← eh_12] at hI
  have hw := hw h_12 eh_12
  have heh_12 : h_12 q_12 = some (.inl (4, z_12, .inr (.inr (.inr (.inr (fun _ => none)))))) := by rw [eh_12]; exact x_up_s
  obtain ⟨fs_15, he_15, hw⟩ := hw
  obtain ⟨hlen15, hw⟩ := hw
  refine x_putF (ci := 1) (v := .ref q_12) (ty := .array (.object "ExactFilter$Part")) (C := RX1) (T := TX1) (N := 2) hx hb hg ku_X1 tyX1 tyX1_ok nmX1 hown hK hI he_15 rfl 1 (by decide) (hg _ kf_X1_15) (fun _ h9 => h9) rfl hin rfl (by decide +kernel) rfl rfl hlen15 dX1_init_15 (fun H locs hI => ?_)
  have hI : x_I G (x_A h0 s.heap.size) s.heap (x_up h_12 x0 (.inr (1, (fs_15 : List Value).set 1 (.ref q_12)))) H locs := hI
  obtain ⟨h_15, eh_15⟩ : ∃ z : xH, z = x_up h_12 x0 (.inr (1, (fs_15 : List Value).set 1 (.ref q_12))) := ⟨_, rfl⟩
  rw [← eh_15] at hI
  have hw := hw h_15 eh_15
  have heh_15 : h_15 x0 = some (.inr (1, (fs_15 : List Value).set 1 (.ref q_12))) := by rw [eh_15]; exact x_up_s
  refine lv_iconst (v := 0) hx hb dX1_init_18 (by decide) ?_
  refine lv_istore_n (lv' := [(2, .int 0), (0, .ref x0), (1, .int x1)]) hx hb dX1_init_19 rfl hl (by decide) rfl (fun ls hl => ?_)
  obtain ⟨n20, hw⟩ := hw
  refine ml_X1_init_20 C hin h0 mc ms post _ ?_ n20 _ _ _ _ _ _ _ _ _ _ _ hw hI (by omega) (by omega) (lv_sub hl [1, 2, 0] rfl)
  · intro h kc ks x0 x1 H locs ls nc ns hw hI hkc hks hl
    refine lv_iconst (v := 0) hx hb dX1_init_82 (by decide) ?_
    refine lv_istore_n (lv' := [(2, .int 0), (0, .ref x0), (1, .int x1)]) hx hb dX1_init_83 rfl hl (by decide) rfl (fun ls hl => ?_)
    obtain ⟨n84, hw⟩ := hw
    refine ml_X1_init_84 C hin h0 mc ms post _ ?_ n84 _ _ _ _ _ _ _ _ _ _ _ hw hI (by omega) (by omega) (lv_sub hl [1, 2, 0] rfl)
    · intro h kc ks x0 H locs ls nc ns hw hI hkc hks hl
      refine lv_aload_n hx hb dX1_init_134 rfl (lv_at hl 0 rfl) ?_
      obtain ⟨fs_135, he_135, hw⟩ := hw
      obtain ⟨v_135, hv_135, hw⟩ := hw
      refine x_get (ci := 1) (C := RX1) (T := TX1) (N := 2) hx hb hg ku_X1 hown hK hI he_135 rfl 1 (by decide) (hg _ kf_X1_15) (fun _ h9 => h9) hv_135 dX1_init_135 ?_
      refine lv_bipush (v := 6) hx hb dX1_init_138 (by decide) ?_
      obtain ⟨n_140, f_140, he_140, hw⟩ := hw
      obtain ⟨hi140, hw⟩ := hw
      refine x_aald hx hb hK hI he_140 rfl hi140 dX1_init_140 ?_
      obtain ⟨y_140, ho140, hw⟩ := hw
      rw [ho140]
      refine W.eq (g2 := F0 m 141 ls (.ref y_140 :: [])) rfl ?_
      refine lv_iconst (v := 0) hx hb dX1_init_141 (by decide) ?_
      refine lv_iconst (v := 0) hx hb dX1_init_142 (by decide) ?_
      refine lv_iconst (v := 1) hx hb dX1_init_143 (by decide) ?_
      refine lv_iconst (v := 1) hx hb dX1_init_144 (by decide) ?_
      obtain ⟨fs_145, he_145, hw⟩ := hw
      refine x_cv (va_runV (As := [.int 0, .int 0, .int 1, .int 1]) (rest := []) ⟨hx, hb, hml, hown, hg⟩ (m_X2_put l G h  y_140 0 0 1 1 _ hw H.size) (cwV 4 hg (x_gV km_X1_22 ki_X2_put kz_X2_X2_put kn_X2 kk_X2_put) rfl rfl rfl (by decide +kernel) ⟨Nat.le_of_ble_eq_true rfl, Nat.le_of_ble_eq_true rfl⟩) ⟨x_blind, x_recv hI hK he_145 rfl rfl, x_pre hI hK⟩ rfl rfl hl.1 rfl (lv_room (Nat.le_of_ble_eq_true rfl)) dX1_init_145 ⟨show nc + 0 ≤ mc by omega, show ns + 0 ≤ ms by omega⟩) hI (fun h_145 H locs hw hI => ?_)
      exact x_vret hx hb hr hlocks hI hw (by omega) (by omega) dX1_init_148
-- ===== ExactFilter$Model.size
abbrev rX1_size  : Room := { frames := 0, cells := 0, slots := 0, locals := 0 }
def wp_X1_size (h0 : xH)  (x0 : Nat) (post : Int32 → Prop) : Prop := ∃ fs_1 : List Value, h0 x0 = some (.inr (1, fs_1)) ∧ ∃ v_1 : Int32, fs_1[0]? = some (.int v_1) ∧ post v_1
set_option maxHeartbeats 4000000 in
set_option maxRecDepth 100000 in
theorem m_X1_size (l : Launch) (G : xG) (h0 : xH)  (x0 : Nat) (post : Int32 → Prop) (hw : wp_X1_size h0  x0 post) (sz : Nat) : Met l yX1_size (wu yX1_size cX1_size 1 (some .int)) (rX1_size) (x_Pc G [.ref x0] h0 sz) (x_Qi G h0 sz (fun r9 h9 => h9 = h0 ∧ post r9)) 0 0 (x_A h0 sz) := by
  refine Met.ofW (cc := cX1_size) (maxL := 1) (ret := (some .int)) (by decide) rfl ?_
  intro p e s m args below meth c s₁ B hml hv
  obtain ⟨rfl, hsz, hR, hK⟩ := hv
  subst hsz
  have C : CX p s m _ meth c G RX1 cX1_size 1 (some .int) := ⟨B.exec, B.bytes, B.returns, hml, findClass_of_methodNamed B.named, x_hg (atoms_spec (ws := wu yX1_size cX1_size 1 (some .int)) B.pre), B.notSynchronized, hK⟩
  obtain ⟨hx, hb, hr, hml, hown, hg, hlocks, hK⟩ := id C
  have hI : x_I G (x_A h0 s.heap.size) s.heap h0 s.heap [] := x_I.start hR
  have hkc : 0 + 0 ≤ 0 := by omega
  have hks : 0 + 0 ≤ 0 := by omega
  have hl := lv_entry ([.ref x0]) (n := 1) (Nat.le_of_ble_eq_true rfl)
  rw [lg_entry_eq]
  generalize (lg_sl ([.ref x0]) ++ List.replicate (1 - (lg_sl ([.ref x0])).length) Slot.unset).toArray = ls at hl ⊢
  have hl : lv_has ls 1 [(0, .ref x0)] := hl
  unfold wp_X1_size at hw
  refine lv_aload_n hx hb dX1_size_0 rfl (lv_at hl 0 rfl) ?_
  obtain ⟨fs_1, he_1, hw⟩ := hw
  obtain ⟨v_1, hv_1, hw⟩ := hw
  refine x_get (ci := 1) (C := RX1) (T := TX1) (N := 2) hx hb hg ku_X1 hown hK hI he_1 rfl 0 (by decide) (hg _ kf_X1_7) (fun _ h9 => h9) hv_1 dX1_size_1 ?_
  exact x_iret hx hb hr hlocks hI ⟨rfl, hw⟩ (by omega) (by omega) dX1_size_4
-- ===== ExactFilter$Model.has
abbrev rX1_has  : Room := { frames := 1, cells := 0, slots := 0, locals := 22 }
def wj_X1_has_29 (h0 : xH) (post : Int32 → Prop)  (s0 : Int32) : Prop := narrow .boolean (.int s0) = .int s0 ∧ post s0
def wj_X1_has_28 (h0 : xH) (post : Int32 → Prop)   : Prop := wj_X1_has_29 h0 post  0
def wp_X1_has (h0 : xH)  (x0 : Nat) (x1 : Int32) (x2 : Int32) (x3 : Int32) (post : Int32 → Prop) : Prop := (x1 < 0 → wj_X1_has_28 h0 post  ) ∧ (¬ x1 < 0 → (7 ≤ x1 → wj_X1_has_28 h0 post  ) ∧ (¬ 7 ≤ x1 → ∃ fs_11 : List Value, h0 x0 = some (.inr (1, fs_11)) ∧ ∃ v_11 : Nat, fs_11[1]? = some (.ref v_11) ∧ ∃ (n_15 : Nat) (f_15 : Nat → Option Nat), h0 v_11 = some (.inl (4, n_15, .inr (.inr (.inr (.inr f_15))))) ∧ vp_in x1 n_15 ∧ ∃ y_15 : Nat, (f_15 (x1 : Int32).toNatClampNeg) = some y_15 ∧ ∃ fs_18 : List Value, h0 y_15 = some (.inr (2, fs_18)) ∧ wp_X2_has h0  y_15 x2 x3 (fun (r_18 : Int32) => (r_18 = 0 → wj_X1_has_28 h0 post  ) ∧ (¬ r_18 = 0 → wj_X1_has_29 h0 post  1))))
set_option maxHeartbeats 4000000 in
set_option maxRecDepth 100000 in
theorem mj_X1_has_29 (C : CX p s m args meth c G RX1 cX1_has 4 (some .boolean)) (h0 : xH) (post : Int32 → Prop) 
    
    (s0 : Int32) (H : Heap) (locs : List Loc) (ls : Array Slot) (nc ns : Nat) (hw : wj_X1_has_29 h0 post  s0) (hI : x_I G (x_A h0 s.heap.size) s.heap h0 H locs) (hkc : nc + 0 ≤ 0) (hks : ns + 0 ≤ 0) (hl : lv_has ls 4 []) : W p l e (rX1_has) s m args below meth c H locs nc ns (MQ below (x_Qi G h0 s.heap.size (fun r9 h9 => h9 = h0 ∧ post r9)) args s 0 0 (x_A h0 s.heap.size)) (F0 m 29 ls [.int s0]) := by
  obtain ⟨hx, hb, hr, hml, hown, hg, hlocks, hK⟩ := id C
  unfold wj_X1_has_29 at hw
  exact x_zret hx hb hr hw.1 hlocks hI ⟨rfl, hw.2⟩ (by omega) (by omega) dX1_has_29
set_option maxHeartbeats 4000000 in
set_option maxRecDepth 100000 in
theorem mj_X1_has_28 (C : CX p s m args meth c G RX1 cX1_has 4 (some .boolean)) (h0 : xH) (post : Int32 → Prop) 
    
     (H : Heap) (locs : List Loc) (ls : Array Slot) (nc ns : Nat) (hw : wj_X1_has_28 h0 post  ) (hI : x_I G (x_A h0 s.heap.size) s.heap h0 H locs) (hkc : nc + 0 ≤ 0) (hks : ns + 0 ≤ 0) (hl : lv_has ls 4 []) : W p l e (rX1_has) s m args below meth c H locs nc ns (MQ below (x_Qi G h0 s.heap.size (fun r9 h9 => h9 = h0 ∧ post r9)) args s 0 0 (x_A h0 s.heap.size)) (F0 m 28 ls []) := by
  obtain ⟨hx, hb, hr, hml, hown, hg, hlocks, hK⟩ := id C
  unfold wj_X1_has_28 at hw
  refine lv_iconst (v := 0) hx hb dX1_has_28 (by decide) ?_
  exact mj_X1_has_29 C h0 post  _ _ _ _ _ _ hw hI (by omega) (by omega) (lv_sub hl [] rfl)
set_option maxHeartbeats 4000000 in
set_option maxRecDepth 100000 in
theorem m_X1_has (l : Launch) (G : xG) (h0 : xH)  (x0 : Nat) (x1 : Int32) (x2 : Int32) (x3 : Int32) (post : Int32 → Prop) (hw : wp_X1_has h0  x0 x1 x2 x3 post) (sz : Nat) : Met l yX1_has (wu yX1_has cX1_has 4 (some .boolean)) (rX1_has) (x_Pc G [.ref x0, .int x1, .int x2, .int x3] h0 sz) (x_Qi G h0 sz (fun r9 h9 => h9 = h0 ∧ post r9)) 0 0 (x_A h0 sz) := by
  refine Met.ofW (cc := cX1_has) (maxL := 4) (ret := (some .boolean)) (by decide) rfl ?_
  intro p e s m args below meth c s₁ B hml hv
  obtain ⟨rfl, hsz, hR, hK⟩ := hv
  subst hsz
  have C : CX p s m _ meth c G RX1 cX1_has 4 (some .boolean) := ⟨B.exec, B.bytes, B.returns, hml, findClass_of_methodNamed B.named, x_hg (atoms_spec (ws := wu yX1_has cX1_has 4 (some .boolean)) B.pre), B.notSynchronized, hK⟩
  obtain ⟨hx, hb, hr, hml, hown, hg, hlocks, hK⟩ := id C
  have hI : x_I G (x_A h0 s.heap.size) s.heap h0 s.heap [] := x_I.start hR
  have hkc : 0 + 0 ≤ 0 := by omega
  have hks : 0 + 0 ≤ 0 := by omega
  have hl := lv_entry ([.ref x0, .int x1, .int x2, .int x3]) (n := 4) (Nat.le_of_ble_eq_true rfl)
  rw [lg_entry_eq]
  generalize (lg_sl ([.ref x0, .int x1, .int x2, .int x3]) ++ List.replicate (4 - (lg_sl ([.ref x0, .int x1, .int x2, .int x3])).length) Slot.unset).toArray = ls at hl ⊢
  have hl : lv_has ls 4 [(0, .ref x0), (1, .int x1), (2, .int x2), (3, .int x3)] := hl
  unfold wp_X1_has at hw
  refine lv_iload_n hx hb dX1_has_0 rfl (lv_at hl 1 rfl) ?_
  refine lv_if_lt (tgt := 28) hx hb dX1_has_1 (by decide) (fun hc1 => ?_) (fun hc1 => ?_)
  · have hw := hw.1 hc1
    exact mj_X1_has_28 C h0 post   _ _ _ _ _ hw hI (by omega) (by omega) (lv_sub hl [] rfl)
  · have hw := hw.2 hc1
    refine lv_iload_n hx hb dX1_has_4 rfl (lv_at hl 1 rfl) ?_
    refine lv_bipush (v := 7) hx hb dX1_has_5 (by decide) ?_
    refine lv_icmp_ge (tgt := 28) hx hb dX1_has_7 (by decide) (fun hc7 => ?_) (fun hc7 => ?_)
    · have hw := hw.1 hc7
      exact mj_X1_has_28 C h0 post   _ _ _ _ _ hw hI (by omega) (by omega) (lv_sub hl [] rfl)
    · have hw := hw.2 hc7
      refine lv_aload_n hx hb dX1_has_10 rfl (lv_at hl 0 rfl) ?_
      obtain ⟨fs_11, he_11, hw⟩ := hw
      obtain ⟨v_11, hv_11, hw⟩ := hw
      refine x_get (ci := 1) (C := RX1) (T := TX1) (N := 2) hx hb hg ku_X1 hown hK hI he_11 rfl 1 (by decide) (hg _ kf_X1_15) (fun _ h9 => h9) hv_11 dX1_has_11 ?_
      refine lv_iload_n hx hb dX1_has_14 rfl (lv_at hl 1 rfl) ?_
      obtain ⟨n_15, f_15, he_15, hw⟩ := hw
      obtain ⟨hi15, hw⟩ := hw
      refine x_aald hx hb hK hI he_15 rfl hi15 dX1_has_15 ?_
      obtain ⟨y_15, ho15, hw⟩ := hw
      rw [ho15]
      refine W.eq (g2 := F0 m 16 ls (.ref y_15 :: [])) rfl ?_
      refine lv_iload_n hx hb dX1_has_16 rfl (lv_at hl 2 rfl) ?_
      refine lv_iload_n hx hb dX1_has_17 rfl (lv_at hl 3 rfl) ?_
      obtain ⟨fs_18, he_18, hw⟩ := hw
      refine x_ci (va_runV (As := [.int x2, .int x3]) (rest := []) ⟨hx, hb, hml, hown, hg⟩ (m_X2_has l G h0  y_15 x2 x3 _ hw s.heap.size) (cwV 2 hg (x_gV km_X1_26 ki_X2_has kz_X2_X2_has kn_X2 kk_X2_has) rfl rfl rfl (by decide +kernel) ⟨Nat.le_of_ble_eq_true rfl, Nat.le_of_ble_eq_true rfl⟩) ⟨x_blind, x_recv hI hK he_18 rfl rfl, x_pre hI hK⟩ rfl rfl hl.1 rfl (lv_room (Nat.le_of_ble_eq_true rfl)) dX1_has_18 ⟨show 0 + 0 ≤ 0 by omega, show 0 + 0 ≤ 0 by omega⟩) hI (fun r_18 h_18 H locs hw hI => ?_)
      obtain ⟨eh_18, hw⟩ := hw
      rw [eh_18] at hI
      refine lv_if_eq (tgt := 28) hx hb dX1_has_21 (by decide) (fun hc21 => ?_) (fun hc21 => ?_)
      · have hw := hw.1 hc21
        exact mj_X1_has_28 C h0 post   _ _ _ _ _ hw hI (by omega) (by omega) (lv_sub hl [] rfl)
      · have hw := hw.2 hc21
        refine lv_iconst (v := 1) hx hb dX1_has_24 (by decide) ?_
        refine lv_goto (tgt := 29) hx hb dX1_has_25 (by decide) ?_
        exact mj_X1_has_29 C h0 post  _ _ _ _ _ _ hw hI (by omega) (by omega) (lv_sub hl [] rfl)
-- ===== ExactFilter$Model.put
abbrev rX1_put  : Room := { frames := 1, cells := 0, slots := 0, locals := 24 }
def wj_X1_put_40  (post : xH → Prop)  (h : xH) : Prop := post h
def wj_X1_put_25  (post : xH → Prop)  (h : xH) (x0 : Nat) (x1 : Int32) (x2 : Int32) (x3 : Int32) (x4 : Int32) (x5 : Int32) : Prop := ∃ fs_26 : List Value, h x0 = some (.inr (1, fs_26)) ∧ ∃ v_26 : Nat, fs_26[1]? = some (.ref v_26) ∧ ∃ (n_30 : Nat) (f_30 : Nat → Option Nat), h v_26 = some (.inl (4, n_30, .inr (.inr (.inr (.inr f_30))))) ∧ vp_in x1 n_30 ∧ ∃ y_30 : Nat, (f_30 (x1 : Int32).toNatClampNeg) = some y_30 ∧ ∃ fs_37 : List Value, h y_30 = some (.inr (2, fs_37)) ∧ wp_X2_put h  y_30 x3 x2 x4 x5 (fun (h_37 : xH) => wj_X1_put_40  post  h_37)
def wp_X1_put (h0 : xH)  (x0 : Nat) (x1 : Int32) (x2 : Int32) (x3 : Int32) (x4 : Int32) (x5 : Int32) (post : xH → Prop) : Prop := ∃ fs_1 : List Value, h0 x0 = some (.inr (1, fs_1)) ∧ ∃ v_1 : Nat, fs_1[1]? = some (.ref v_1) ∧ ∃ (n_5 : Nat) (f_5 : Nat → Option Nat), h0 v_1 = some (.inl (4, n_5, .inr (.inr (.inr (.inr f_5))))) ∧ vp_in x1 n_5 ∧ ∃ y_5 : Nat, (f_5 (x1 : Int32).toNatClampNeg) = some y_5 ∧ ∃ fs_12 : List Value, h0 y_5 = some (.inr (2, fs_12)) ∧ wp_X2_put h0  y_5 x2 x3 x4 x5 (fun (h_12 : xH) => (x1 = 1 → wj_X1_put_25  post  h_12 x0 x1 x2 x3 x4 x5) ∧ (¬ x1 = 1 → (¬ x1 = 4 → wj_X1_put_40  post  h_12) ∧ (x1 = 4 → wj_X1_put_25  post  h_12 x0 x1 x2 x3 x4 x5)))
set_option maxHeartbeats 4000000 in
set_option maxRecDepth 100000 in
theorem mj_X1_put_40 (C : CX p s m args meth c G RX1 cX1_put 6 none) (h0 : xH) (post : xH → Prop) 
    
    (h : xH) (H : Heap) (locs : List Loc) (ls : Array Slot) (nc ns : Nat) (hw : wj_X1_put_40  post  h) (hI : x_I G (x_A h0 s.heap.size) s.heap h H locs) (hkc : nc + 0 ≤ 0) (hks : ns + 0 ≤ 0) (hl : lv_has ls 6 []) : W p l e (rX1_put) s m args below meth c H locs nc ns (MQ below (x_Qv G h0 s.heap.size post) args s 0 0 (x_A h0 s.heap.size)) (F0 m 40 ls []) := by
  obtain ⟨hx, hb, hr, hml, hown, hg, hlocks, hK⟩ := id C
  unfold wj_X1_put_40 at hw
  exact x_vret hx hb hr hlocks hI hw (by omega) (by omega) dX1_put_40
set_option maxHeartbeats 4000000 in
set_option maxRecDepth 100000 in
theorem mj_X1_put_25 (C : CX p s m args meth c G RX1 cX1_put 6 none) (h0 : xH) (post : xH → Prop) 
    
    (h : xH) (x0 : Nat) (x1 : Int32) (x2 : Int32) (x3 : Int32) (x4 : Int32) (x5 : Int32) (H : Heap) (locs : List Loc) (ls : Array Slot) (nc ns : Nat) (hw : wj_X1_put_25  post  h x0 x1 x2 x3 x4 x5) (hI : x_I G (x_A h0 s.heap.size) s.heap h H locs) (hkc : nc + 0 ≤ 0) (hks : ns + 0 ≤ 0) (hl : lv_has ls 6 [(0, .ref x0), (1, .int x1), (2, .int x2), (3, .int x3), (4, .int x4), (5, .int x5)]) : W p l e (rX1_put) s m args below meth c H locs nc ns (MQ below (x_Qv G h0 s.heap.size post) args s 0 0 (x_A h0 s.heap.size)) (F0 m 25 ls []) := by
  obtain ⟨hx, hb, hr, hml, hown, hg, hlocks, hK⟩ := id C
  unfold wj_X1_put_25 at hw
  refine lv_aload_n hx hb dX1_put_25 rfl (lv_at hl 0 rfl) ?_
  obtain ⟨fs_26, he_26, hw⟩ := hw
  obtain ⟨v_26, hv_26, hw⟩ := hw
  refine x_get (ci := 1) (C := RX1) (T := TX1) (N := 2) hx hb hg ku_X1 hown hK hI he_26 rfl 1 (by decide) (hg _ kf_X1_15) (fun _ h9 => h9) hv_26 dX1_put_26 ?_
  refine lv_iload_n hx hb dX1_put_29 rfl (lv_at hl 1 rfl) ?_
  obtain ⟨n_30, f_30, he_30, hw⟩ := hw
  obtain ⟨hi30, hw⟩ := hw
  refine x_aald hx hb hK hI he_30 rfl hi30 dX1_put_30 ?_
  obtain ⟨y_30, ho30, hw⟩ := hw
  rw [ho30]
  refine W.eq (g2 := F0 m 31 ls (.ref y_30 :: [])) rfl ?_
  refine lv_iload_n hx hb dX1_put_31 rfl (lv_at hl 3 rfl) ?_
  refine lv_iload_n hx hb dX1_put_32 rfl (lv_at hl 2 rfl) ?_
  refine lv_iload hx hb dX1_put_33 (lv_at hl 4 rfl) ?_
  refine lv_iload hx hb dX1_put_35 (lv_at hl 5 rfl) ?_
  obtain ⟨fs_37, he_37, hw⟩ := hw
  refine x_cv (va_runV (As := [.int x3, .int x2, .int x4, .int x5]) (rest := []) ⟨hx, hb, hml, hown, hg⟩ (m_X2_put l G h  y_30 x3 x2 x4 x5 _ hw H.size) (cwV 4 hg (x_gV km_X1_22 ki_X2_put kz_X2_X2_put kn_X2 kk_X2_put) rfl rfl rfl (by decide +kernel) ⟨Nat.le_of_ble_eq_true rfl, Nat.le_of_ble_eq_true rfl⟩) ⟨x_blind, x_recv hI hK he_37 rfl rfl, x_pre hI hK⟩ rfl rfl hl.1 rfl (lv_room (Nat.le_of_ble_eq_true rfl)) dX1_put_37 ⟨show nc + 0 ≤ 0 by omega, show ns + 0 ≤ 0 by omega⟩) hI (fun h_37 H locs hw hI => ?_)
  exact mj_X1_put_40 C h0 post  _ _ _ _ _ _ hw hI (by omega) (by omega) (lv_sub hl [] rfl)
set_option maxHeartbeats 4000000 in
set_option maxRecDepth 100000 in
theorem m_X1_put (l : Launch) (G : xG) (h0 : xH)  (x0 : Nat) (x1 : Int32) (x2 : Int32) (x3 : Int32) (x4 : Int32) (x5 : Int32) (post : xH → Prop) (hw : wp_X1_put h0  x0 x1 x2 x3 x4 x5 post) (sz : Nat) : Met l yX1_put (wu yX1_put cX1_put 6 none) (rX1_put) (x_Pc G [.ref x0, .int x1, .int x2, .int x3, .int x4, .int x5] h0 sz) (x_Qv G h0 sz post) 0 0 (x_A h0 sz) := by
  refine Met.ofW (cc := cX1_put) (maxL := 6) (ret := none) (by decide) rfl ?_
  intro p e s m args below meth c s₁ B hml hv
  obtain ⟨rfl, hsz, hR, hK⟩ := hv
  subst hsz
  have C : CX p s m _ meth c G RX1 cX1_put 6 none := ⟨B.exec, B.bytes, B.returns, hml, findClass_of_methodNamed B.named, x_hg (atoms_spec (ws := wu yX1_put cX1_put 6 none) B.pre), B.notSynchronized, hK⟩
  obtain ⟨hx, hb, hr, hml, hown, hg, hlocks, hK⟩ := id C
  have hI : x_I G (x_A h0 s.heap.size) s.heap h0 s.heap [] := x_I.start hR
  have hkc : 0 + 0 ≤ 0 := by omega
  have hks : 0 + 0 ≤ 0 := by omega
  have hl := lv_entry ([.ref x0, .int x1, .int x2, .int x3, .int x4, .int x5]) (n := 6) (Nat.le_of_ble_eq_true rfl)
  rw [lg_entry_eq]
  generalize (lg_sl ([.ref x0, .int x1, .int x2, .int x3, .int x4, .int x5]) ++ List.replicate (6 - (lg_sl ([.ref x0, .int x1, .int x2, .int x3, .int x4, .int x5])).length) Slot.unset).toArray = ls at hl ⊢
  have hl : lv_has ls 6 [(0, .ref x0), (1, .int x1), (2, .int x2), (3, .int x3), (4, .int x4), (5, .int x5)] := hl
  unfold wp_X1_put at hw
  refine lv_aload_n hx hb dX1_put_0 rfl (lv_at hl 0 rfl) ?_
  obtain ⟨fs_1, he_1, hw⟩ := hw
  obtain ⟨v_1, hv_1, hw⟩ := hw
  refine x_get (ci := 1) (C := RX1) (T := TX1) (N := 2) hx hb hg ku_X1 hown hK hI he_1 rfl 1 (by decide) (hg _ kf_X1_15) (fun _ h9 => h9) hv_1 dX1_put_1 ?_
  refine lv_iload_n hx hb dX1_put_4 rfl (lv_at hl 1 rfl) ?_
  obtain ⟨n_5, f_5, he_5, hw⟩ := hw
  obtain ⟨hi5, hw⟩ := hw
  refine x_aald hx hb hK hI he_5 rfl hi5 dX1_put_5 ?_
  obtain ⟨y_5, ho5, hw⟩ := hw
  rw [ho5]
  refine W.eq (g2 := F0 m 6 ls (.ref y_5 :: [])) rfl ?_
  refine lv_iload_n hx hb dX1_put_6 rfl (lv_at hl 2 rfl) ?_
  refine lv_iload_n hx hb dX1_put_7 rfl (lv_at hl 3 rfl) ?_
  refine lv_iload hx hb dX1_put_8 (lv_at hl 4 rfl) ?_
  refine lv_iload hx hb dX1_put_10 (lv_at hl 5 rfl) ?_
  obtain ⟨fs_12, he_12, hw⟩ := hw
  refine x_cv (va_runV (As := [.int x2, .int x3, .int x4, .int x5]) (rest := []) ⟨hx, hb, hml, hown, hg⟩ (m_X2_put l G h0  y_5 x2 x3 x4 x5 _ hw s.heap.size) (cwV 4 hg (x_gV km_X1_22 ki_X2_put kz_X2_X2_put kn_X2 kk_X2_put) rfl rfl rfl (by decide +kernel) ⟨Nat.le_of_ble_eq_true rfl, Nat.le_of_ble_eq_true rfl⟩) ⟨x_blind, x_recv hI hK he_12 rfl rfl, x_pre hI hK⟩ rfl rfl hl.1 rfl (lv_room (Nat.le_of_ble_eq_true rfl)) dX1_put_12 ⟨show 0 + 0 ≤ 0 by omega, show 0 + 0 ≤ 0 by omega⟩) hI (fun h_12 H locs hw hI => ?_)
  refine lv_iload_n hx hb dX1_put_15 rfl (lv_at hl 1 rfl) ?_
  refine lv_iconst (v := 1) hx hb dX1_put_16 (by decide) ?_
  refine lv_icmp_eq (tgt := 25) hx hb dX1_put_17 (by decide) (fun hc17 => ?_) (fun hc17 => ?_)
  · have hw := hw.1 hc17
    exact mj_X1_put_25 C h0 post  _ _ _ _ _ _ _ _ _ _ _ _ hw hI (by omega) (by omega) (lv_sub hl [0, 1, 2, 3, 4, 5] rfl)
  · have hw := hw.2 hc17
    refine lv_iload_n hx hb dX1_put_20 rfl (lv_at hl 1 rfl) ?_
    refine lv_iconst (v := 4) hx hb dX1_put_21 (by decide) ?_
    refine lv_icmp_ne (tgt := 40) hx hb dX1_put_22 (by decide) (fun hc22 => ?_) (fun hc22 => ?_)
    · have hw := hw.1 hc22
      exact mj_X1_put_40 C h0 post  _ _ _ _ _ _ hw hI (by omega) (by omega) (lv_sub hl [] rfl)
    · have hw := hw.2 hc22
      exact mj_X1_put_25 C h0 post  _ _ _ _ _ _ _ _ _ _ _ _ hw hI (by omega) (by omega) (lv_sub hl [0, 1, 2, 3, 4, 5] rfl)
-- ===== ExactFilter$Model.isFit
abbrev rX1_isFit  : Room := { frames := 1, cells := 0, slots := 0, locals := 23 }
def wp_X1_isFit (h0 : xH)  (x0 : Nat) (x1 : Int32) (post : Int32 → Prop) : Prop := ∃ fs_1 : List Value, h0 x0 = some (.inr (1, fs_1)) ∧ ∃ v_1 : Nat, fs_1[1]? = some (.ref v_1) ∧ ∃ (n_5 : Nat) (f_5 : Nat → Option Nat), h0 v_1 = some (.inl (4, n_5, .inr (.inr (.inr (.inr f_5))))) ∧ vp_in x1 n_5 ∧ ∃ y_5 : Nat, (f_5 (x1 : Int32).toNatClampNeg) = some y_5 ∧ ∃ fs_6 : List Value, h0 y_5 = some (.inr (2, fs_6)) ∧ wp_X2_isFit h0  y_5 (fun (r_6 : Int32) => narrow .boolean (.int r_6) = .int r_6 ∧ post r_6)
set_option maxHeartbeats 4000000 in
set_option maxRecDepth 100000 in
theorem m_X1_isFit (l : Launch) (G : xG) (h0 : xH)  (x0 : Nat) (x1 : Int32) (post : Int32 → Prop) (hw : wp_X1_isFit h0  x0 x1 post) (sz : Nat) : Met l yX1_isFit (wu yX1_isFit cX1_isFit 2 (some .boolean)) (rX1_isFit) (x_Pc G [.ref x0, .int x1] h0 sz) (x_Qi G h0 sz (fun r9 h9 => h9 = h0 ∧ post r9)) 0 0 (x_A h0 sz) := by
  refine Met.ofW (cc := cX1_isFit) (maxL := 2) (ret := (some .boolean)) (by decide) rfl ?_
  intro p e s m args below meth c s₁ B hml hv
  obtain ⟨rfl, hsz, hR, hK⟩ := hv
  subst hsz
  have C : CX p s m _ meth c G RX1 cX1_isFit 2 (some .boolean) := ⟨B.exec, B.bytes, B.returns, hml, findClass_of_methodNamed B.named, x_hg (atoms_spec (ws := wu yX1_isFit cX1_isFit 2 (some .boolean)) B.pre), B.notSynchronized, hK⟩
  obtain ⟨hx, hb, hr, hml, hown, hg, hlocks, hK⟩ := id C
  have hI : x_I G (x_A h0 s.heap.size) s.heap h0 s.heap [] := x_I.start hR
  have hkc : 0 + 0 ≤ 0 := by omega
  have hks : 0 + 0 ≤ 0 := by omega
  have hl := lv_entry ([.ref x0, .int x1]) (n := 2) (Nat.le_of_ble_eq_true rfl)
  rw [lg_entry_eq]
  generalize (lg_sl ([.ref x0, .int x1]) ++ List.replicate (2 - (lg_sl ([.ref x0, .int x1])).length) Slot.unset).toArray = ls at hl ⊢
  have hl : lv_has ls 2 [(0, .ref x0), (1, .int x1)] := hl
  unfold wp_X1_isFit at hw
  refine lv_aload_n hx hb dX1_isFit_0 rfl (lv_at hl 0 rfl) ?_
  obtain ⟨fs_1, he_1, hw⟩ := hw
  obtain ⟨v_1, hv_1, hw⟩ := hw
  refine x_get (ci := 1) (C := RX1) (T := TX1) (N := 2) hx hb hg ku_X1 hown hK hI he_1 rfl 1 (by decide) (hg _ kf_X1_15) (fun _ h9 => h9) hv_1 dX1_isFit_1 ?_
  refine lv_iload_n hx hb dX1_isFit_4 rfl (lv_at hl 1 rfl) ?_
  obtain ⟨n_5, f_5, he_5, hw⟩ := hw
  obtain ⟨hi5, hw⟩ := hw
  refine x_aald hx hb hK hI he_5 rfl hi5 dX1_isFit_5 ?_
  obtain ⟨y_5, ho5, hw⟩ := hw
  rw [ho5]
  refine W.eq (g2 := F0 m 6 ls (.ref y_5 :: [])) rfl ?_
  obtain ⟨fs_6, he_6, hw⟩ := hw
  refine x_ci (va_runV (As := []) (rest := []) ⟨hx, hb, hml, hown, hg⟩ (m_X2_isFit l G h0  y_5 _ hw s.heap.size) (cwV 0 hg (x_gV km_X1_30 ki_X2_isFit kz_X2_X2_isFit kn_X2 kk_X2_isFit) rfl rfl rfl (by decide +kernel) ⟨Nat.le_of_ble_eq_true rfl, Nat.le_of_ble_eq_true rfl⟩) ⟨x_blind, x_recv hI hK he_6 rfl rfl, x_pre hI hK⟩ rfl rfl hl.1 rfl (lv_room (Nat.le_of_ble_eq_true rfl)) dX1_isFit_6 ⟨show 0 + 0 ≤ 0 by omega, show 0 + 0 ≤ 0 by omega⟩) hI (fun r_6 h_6 H locs hw hI => ?_)
  obtain ⟨eh_6, hw⟩ := hw
  rw [eh_6] at hI
  exact x_zret hx hb hr hw.1 hlocks hI ⟨rfl, hw.2⟩ (by omega) (by omega) dX1_isFit_9
-- ===== ExactFilter$Model.table
abbrev rX1_table (mc ms : Nat) : Room := { frames := 4, cells := mc, slots := ms, locals := 92 }
def wp_X1_table (h0 : xH) (mc ms : Nat) (x0 : Nat) (x1 : Int32) (post : Nat → xH → Prop) : Prop := ∃ fs_1 : List Value, h0 x0 = some (.inr (1, fs_1)) ∧ ∃ v_1 : Nat, fs_1[1]? = some (.ref v_1) ∧ ∃ (n_5 : Nat) (f_5 : Nat → Option Nat), h0 v_1 = some (.inl (4, n_5, .inr (.inr (.inr (.inr f_5))))) ∧ vp_in x1 n_5 ∧ ∃ y_5 : Nat, (f_5 (x1 : Int32).toNatClampNeg) = some y_5 ∧ ∃ fs_6 : List Value, h0 y_5 = some (.inr (2, fs_6)) ∧ ∃ mc_6 ms_6 : Nat, mc_6 ≤ mc ∧ ms_6 ≤ ms ∧ wp_X2_table h0 mc_6 ms_6 y_5 (fun (r_6 : Nat) (h_6 : xH) => post r_6 h_6)
set_option maxHeartbeats 4000000 in
set_option maxRecDepth 100000 in
theorem m_X1_table (l : Launch) (G : xG) (h0 : xH) (mc ms : Nat) (x0 : Nat) (x1 : Int32) (post : Nat → xH → Prop) (hw : wp_X1_table h0 mc ms x0 x1 post) (sz : Nat) : Met l yX1_table (wu yX1_table cX1_table 2 (some (.object "ExactFilter$Table"))) (rX1_table mc ms) (x_Pc G [.ref x0, .int x1] h0 sz) (x_Qr G h0 sz post) mc ms (x_A h0 sz) := by
  refine Met.ofW (cc := cX1_table) (maxL := 2) (ret := (some (.object "ExactFilter$Table"))) (by decide) rfl ?_
  intro p e s m args below meth c s₁ B hml hv
  obtain ⟨rfl, hsz, hR, hK⟩ := hv
  subst hsz
  have C : CX p s m _ meth c G RX1 cX1_table 2 (some (.object "ExactFilter$Table")) := ⟨B.exec, B.bytes, B.returns, hml, findClass_of_methodNamed B.named, x_hg (atoms_spec (ws := wu yX1_table cX1_table 2 (some (.object "ExactFilter$Table"))) B.pre), B.notSynchronized, hK⟩
  obtain ⟨hx, hb, hr, hml, hown, hg, hlocks, hK⟩ := id C
  have hI : x_I G (x_A h0 s.heap.size) s.heap h0 s.heap [] := x_I.start hR
  have hkc : 0 + mc ≤ mc := by omega
  have hks : 0 + ms ≤ ms := by omega
  have hl := lv_entry ([.ref x0, .int x1]) (n := 2) (Nat.le_of_ble_eq_true rfl)
  rw [lg_entry_eq]
  generalize (lg_sl ([.ref x0, .int x1]) ++ List.replicate (2 - (lg_sl ([.ref x0, .int x1])).length) Slot.unset).toArray = ls at hl ⊢
  have hl : lv_has ls 2 [(0, .ref x0), (1, .int x1)] := hl
  unfold wp_X1_table at hw
  refine lv_aload_n hx hb dX1_table_0 rfl (lv_at hl 0 rfl) ?_
  obtain ⟨fs_1, he_1, hw⟩ := hw
  obtain ⟨v_1, hv_1, hw⟩ := hw
  refine x_get (ci := 1) (C := RX1) (T := TX1) (N := 2) hx hb hg ku_X1 hown hK hI he_1 rfl 1 (by decide) (hg _ kf_X1_15) (fun _ h9 => h9) hv_1 dX1_table_1 ?_
  refine lv_iload_n hx hb dX1_table_4 rfl (lv_at hl 1 rfl) ?_
  obtain ⟨n_5, f_5, he_5, hw⟩ := hw
  obtain ⟨hi5, hw⟩ := hw
  refine x_aald hx hb hK hI he_5 rfl hi5 dX1_table_5 ?_
  obtain ⟨y_5, ho5, hw⟩ := hw
  rw [ho5]
  refine W.eq (g2 := F0 m 6 ls (.ref y_5 :: [])) rfl ?_
  obtain ⟨fs_6, he_6, hw⟩ := hw
  obtain ⟨mc_6, ms_6, hkc1, hks1, hw⟩ := hw
  refine x_cr (va_runV (As := []) (rest := []) ⟨hx, hb, hml, hown, hg⟩ (m_X2_table l G h0 mc_6 ms_6 y_5 _ hw s.heap.size) (cwV 0 hg (x_gV km_X1_34 ki_X2_table kz_X2_X2_table kn_X2 kk_X2_table) rfl rfl rfl (by decide +kernel) ⟨Nat.le_of_ble_eq_true rfl, Nat.le_of_ble_eq_true rfl⟩) ⟨x_blind, x_recv hI hK he_6 rfl rfl, x_pre hI hK⟩ rfl rfl hl.1 rfl (lv_room (Nat.le_of_ble_eq_true rfl)) dX1_table_6 ⟨show 0 + mc_6 ≤ mc by omega, show 0 + ms_6 ≤ ms by omega⟩) hI (fun r_6 h_6 H locs hw hI => ?_)
  exact x_aret hx hb hr (by first | exact Or.inl ⟨_, rfl⟩ | exact Or.inr ⟨_, rfl⟩) hlocks hI hw (by omega) (by omega) dX1_table_9
end XB_xb2
