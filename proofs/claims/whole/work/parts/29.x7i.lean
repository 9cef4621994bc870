section XB_x7i
variable {p : Program} {l : Launch} {e : Env} {s : State} {m : MethodId} {args : Array Value} {below : List Frame} {meth : Method} {c : Code} {G : xG}
-- ===== ExactFilterModel.init
abbrev rX7_init (mc ms : Nat) : Room := { frames := 2, cells := mc, slots := ms, locals := 44 }
def wp_X7_init (h0 : xH) (mc ms : Nat) (x0 : Nat) (post : xH → Prop) : Prop := ∃ fs_6 : List Value, h0 x0 = some (.inr (7, fs_6)) ∧ 0 < (fs_6 : List Value).length ∧ ∀ h_6 : xH, h_6 = x_up h0 x0 (.inr (7, (fs_6 : List Value).set 0 (.int 0))) → 1 < ((fs_6 : List Value).set 0 (.int 0) : List Value).length ∧ ∀ h_11 : xH, h_11 = x_up h_6 x0 (.inr (7, ((fs_6 : List Value).set 0 (.int 0) : List Value).set 1 (.int 1))) → ¬ (40 : Int32) < 0 ∧ ∀ z_17 : Nat, (40 : Int32).toNatClampNeg = z_17 → z_17 ≤ 60000000 ∧ 1 ≤ mc ∧ z_17 ≤ ms ∧ ∀ q_17 : Nat, x_fresh h_11 q_17 → ∀ h_17 : xH, h_17 = x_up h_11 q_17 (.inl (0, z_17, .inl (fun _ => 0))) → ∃ fs_19 : List Value, h_17 x0 = some (.inr (7, fs_19)) ∧ 2 < (fs_19 : List Value).length ∧ ∀ h_19 : xH, h_19 = x_up h_17 x0 (.inr (7, (fs_19 : List Value).set 2 (.ref q_17))) → ¬ (40 : Int32) < 0 ∧ ∀ z_25 : Nat, (40 : Int32).toNatClampNeg = z_25 → z_25 ≤ 60000000 ∧ 1 ≤ (mc - 1) ∧ z_25 ≤ (ms - z_17) ∧ ∀ q_25 : Nat, x_fresh h_19 q_25 → ∀ h_25 : xH, h_25 = x_up h_19 q_25 (.inl (0, z_25, .inl (fun _ => 0))) → ∃ fs_27 : List Value, h_25 x0 = some (.inr (7, fs_27)) ∧ 3 < (fs_27 : List Value).length ∧ ∀ h_27 : xH, h_27 = x_up h_25 x0 (.inr (7, (fs_27 : List Value).set 3 (.ref q_25))) → 4 < ((fs_27 : List Value).set 3 (.ref q_25) : List Value).length ∧ ∀ h_32 : xH, h_32 = x_up h_27 x0 (.inr (7, ((fs_27 : List Value).set 3 (.ref q_25) : List Value).set 4 (.int 0))) → 5 < (((fs_27 : List Value).set 3 (.ref q_25) : List Value).set 4 (.int 0) : List Value).length ∧ ∀ h_37 : xH, h_37 = x_up h_32 x0 (.inr (7, (((fs_27 : List Value).set 3 (.ref q_25) : List Value).set 4 (.int 0) : List Value).set 5 (.int 0))) → 6 < ((((fs_27 : List Value).set 3 (.ref q_25) : List Value).set 4 (.int 0) : List Value).set 5 (.int 0) : List Value).length ∧ ∀ h_42 : xH, h_42 = x_up h_37 x0 (.inr (7, ((((fs_27 : List Value).set 3 (.ref q_25) : List Value).set 4 (.int 0) : List Value).set 5 (.int 0) : List Value).set 6 (.int 0))) → 7 < (((((fs_27 : List Value).set 3 (.ref q_25) : List Value).set 4 (.int 0) : List Value).set 5 (.int 0) : List Value).set 6 (.int 0) : List Value).length ∧ ∀ h_47 : xH, h_47 = x_up h_42 x0 (.inr (7, (((((fs_27 : List Value).set 3 (.ref q_25) : List Value).set 4 (.int 0) : List Value).set 5 (.int 0) : List Value).set 6 (.int 0) : List Value).set 7 (.int 0))) → ¬ (96000 : Int32) < 0 ∧ ∀ z_53 : Nat, (96000 : Int32).toNatClampNeg = z_53 → z_53 ≤ 60000000 ∧ 1 ≤ ((mc - 1) - 1) ∧ z_53 ≤ ((ms - z_17) - z_25) ∧ ∀ q_53 : Nat, x_fresh h_47 q_53 → ∀ h_53 : xH, h_53 = x_up h_47 q_53 (.inl (0, z_53, .inl (fun _ => 0))) → ∃ fs_55 : List Value, h_53 x0 = some (.inr (7, fs_55)) ∧ 8 < (fs_55 : List Value).length ∧ ∀ h_55 : xH, h_55 = x_up h_53 x0 (.inr (7, (fs_55 : List Value).set 8 (.ref q_53))) → ¬ (64 : Int32) < 0 ∧ ∀ z_61 : Nat, (64 : Int32).toNatClampNeg = z_61 → z_61 ≤ 60000000 ∧ 1 ≤ (((mc - 1) - 1) - 1) ∧ z_61 ≤ (((ms - z_17) - z_25) - z_53) ∧ ∀ q_61 : Nat, x_fresh h_55 q_61 → ∀ h_61 : xH, h_61 = x_up h_55 q_61 (.inl (0, z_61, .inl (fun _ => 0))) → ∃ fs_63 : List Value, h_61 x0 = some (.inr (7, fs_63)) ∧ 9 < (fs_63 : List Value).length ∧ ∀ h_63 : xH, h_63 = x_up h_61 x0 (.inr (7, (fs_63 : List Value).set 9 (.ref q_61))) → ¬ (24 : Int32) < 0 ∧ ∀ z_69 : Nat, (24 : Int32).toNatClampNeg = z_69 → z_69 ≤ 60000000 ∧ 1 ≤ ((((mc - 1) - 1) - 1) - 1) ∧ z_69 ≤ ((((ms - z_17) - z_25) - z_53) - z_61) ∧ ∀ q_69 : Nat, x_fresh h_63 q_69 → ∀ h_69 : xH, h_69 = x_up h_63 q_69 (.inl (0, z_69, .inl (fun _ => 0))) → ∃ fs_71 : List Value, h_69 x0 = some (.inr (7, fs_71)) ∧ 10 < (fs_71 : List Value).length ∧ ∀ h_71 : xH, h_71 = x_up h_69 x0 (.inr (7, (fs_71 : List Value).set 10 (.ref q_69))) → ¬ (3010 : Int32) < 0 ∧ ∀ z_78 : Nat, (3010 : Int32).toNatClampNeg = z_78 → z_78 ≤ 60000000 ∧ 1 ≤ (((((mc - 1) - 1) - 1) - 1) - 1) ∧ z_78 ≤ (((((ms - z_17) - z_25) - z_53) - z_61) - z_69) ∧ ∀ q_78 : Nat, x_fresh h_71 q_78 → ∀ h_78 : xH, h_78 = x_up h_71 q_78 (.inl (0, z_78, .inl (fun _ => 0))) → ∃ fs_80 : List Value, h_78 x0 = some (.inr (7, fs_80)) ∧ 11 < (fs_80 : List Value).length ∧ ∀ h_80 : xH, h_80 = x_up h_78 x0 (.inr (7, (fs_80 : List Value).set 11 (.ref q_78))) → wp_A7_fresh h_80  x0 1 (fun (h_85 : xH) => post h_85)
set_option maxHeartbeats 4000000 in
set_option maxRecDepth 100000 in
theorem m_X7_init (l : Launch) (G : xG) (h0 : xH) (mc ms : Nat) (x0 : Nat) (post : xH → Prop) (hw : wp_X7_init h0 mc ms x0 post) (sz : Nat) : Met l yX7_init (wu yX7_init cX7_init 1 none) (rX7_init mc ms) (x_Pc G [.ref x0] h0 sz) (x_Qv G h0 sz post) mc ms (x_A h0 sz) := by
  refine Met.ofW (cc := cX7_init) (maxL := 1) (ret := none) (by decide) rfl ?_
  intro p e s m args below meth c s₁ B hml hv
  obtain ⟨rfl, hsz, hR, hK⟩ := hv
  subst hsz
  have C : CX p s m _ meth c G RX7 cX7_init 1 none := ⟨B.exec, B.bytes, B.returns, hml, findClass_of_methodNamed B.named, x_hg (atoms_spec (ws := wu yX7_init cX7_init 1 none) B.pre), B.notSynchronized, hK⟩
  obtain ⟨hx, hb, hr, hml, hown, hg, hlocks, hK⟩ := id C
  have hin : meth.name = "<init>" := (name_of_methodNamed B.named B.method).1
  have hI : x_I G (x_A h0 s.heap.size) s.heap h0 s.heap [] := x_I.start hR
  have hkc : 0 + mc ≤ mc := by omega
  have hks : 0 + ms ≤ ms := by omega
  have hl := lv_entry ([.ref x0]) (n := 1) (Nat.le_of_ble_eq_true rfl)
  rw [lg_entry_eq]
  generalize (lg_sl ([.ref x0]) ++ List.replicate (1 - (lg_sl ([.ref x0])).length) Slot.unset).toArray = ls at hl ⊢
  have hl : lv_has ls 1 [(0, .ref x0)] := hl
  unfold wp_X7_init at hw
  refine lv_aload_n hx hb dX7_init_0 rfl (lv_at hl 0 rfl) ?_
  refine W.objInit hx hb hown (hg _ km_X7_1) (hg _ ki_java_lang_Object__init____V) (hg _ kk_java_lang_Object__init____V) rfl (by rw [hml]; exact hl.1) rfl dX7_init_1 (Nat.le_of_ble_eq_true rfl) (Nat.le_of_ble_eq_true rfl) ?_
  refine W.eq (g2 := F0 m 4 ls []) rfl ?_
  refine lv_aload_n hx hb dX7_init_4 rfl (lv_at hl 0 rfl) ?_
  refine lv_iconst (v := 0) hx hb dX7_init_5 (by decide) ?_
  obtain ⟨fs_6, he_6, hw⟩ := hw
  obtain ⟨hlen6, hw⟩ := hw
  refine x_put (ci := 7) (v := .int 0) (ty := .int) (C := RX7) (T := TX7) (N := 12) hx hb hg ku_X7 tyX7 tyX7_ok nmX7 hown hK hI he_6 rfl 0 (by decide) (hg _ kf_X7_7) (fun _ h9 => h9) rfl (by decide +kernel) rfl rfl hlen6 dX7_init_6 (fun H locs hI => ?_)
  have hI : x_I G (x_A h0 s.heap.size) s.heap (x_up h0 x0 (.inr (7, (fs_6 : List Value).set 0 (.int 0)))) H locs := hI
  obtain ⟨h_6, eh_6⟩ : ∃ z : xH, z = x_up h0 x0 (.inr (7, (fs_6 : List Value).set 0 (.int 0))) := ⟨_, rfl⟩
  rw [← eh_6] at hI
  have hw := hw h_6 eh_6
  have heh_6 : h_6 x0 = some (.inr (7, (fs_6 : List Value).set 0 (.int 0))) := by rw [eh_6]; exact x_up_s
  refine lv_aload_n hx hb dX7_init_9 rfl (lv_at hl 0 rfl) ?_
  refine lv_iconst (v := 1) hx hb dX7_init_10 (by decide) ?_
  obtain ⟨hlen11, hw⟩ := hw
  refine x_put (ci := 7) (v := .int 1) (ty := .int) (C := RX7) (T := TX7) (N := 12) hx hb hg ku_X7 tyX7 tyX7_ok nmX7 hown hK hI heh_6 rfl 1 (by decide) (hg _ kf_X7_13) (fun _ h9 => h9) rfl (by decide +kernel) rfl rfl hlen11 dX7_init_11 (fun H locs hI => ?_)
  have hI : x_I G (x_A h0 s.heap.size) s.heap (x_up h_6 x0 (.inr (7, ((fs_6 : List Value).set 0 (.int 0) : List Value).set 1 (.int 1)))) H locs := hI
  obtain ⟨h_11, eh_11⟩ : ∃ z : xH, z = x_up h_6 x0 (.inr (7, ((fs_6 : List Value).set 0 (.int 0) : List Value).set 1 (.int 1))) := ⟨_, rfl⟩
  rw [← eh_11] at hI
  have hw := hw h_11 eh_11
  have heh_11 : h_11 x0 = some (.inr (7, ((fs_6 : List Value).set 0 (.int 0) : List Value).set 1 (.int 1))) := by rw [eh_11]; exact x_up_s
  refine lv_aload_n hx hb dX7_init_14 rfl (lv_at hl 0 rfl) ?_
  refine lv_bipush (v := 40) hx hb dX7_init_15 (by decide) ?_
  obtain ⟨hneg17, hw⟩ := hw
  obtain ⟨z_17, hz17⟩ : ∃ z : Nat, (40 : Int32).toNatClampNeg = z := ⟨_, rfl⟩
  obtain ⟨hz217, hkc1, hks1, hw⟩ := hw z_17 hz17
  refine x_newi hx hb (hg _ ka_int) hK hI hneg17 hz17 (by omega) (show 0 + 1 ≤ mc by omega) (show 0 + z_17 ≤ ms by omega) dX7_init_17 (fun q_17 H hfr17 hI => ?_)
  have hw := hw q_17 hfr17
  obtain ⟨h_17, eh_17⟩ : ∃ z : xH, z = x_up h_11 q_17 (.inl (0, z_17, .inl (fun _ => 0))) := ⟨_, rfl⟩
  rw [← eh_17] at hI
  have hw := hw h_17 eh_17
  have heh_17 : h_17 q_17 = some (.inl (0, z_17, .inl (fun _ => 0))) := by rw [eh_17]; exact x_up_s
  obtain ⟨fs_19, he_19, hw⟩ := hw
  obtain ⟨hlen19, hw⟩ := hw
  refine x_putF (ci := 7) (v := .ref q_17) (ty := .array .int) (C := RX7) (T := TX7) (N := 12) hx hb hg ku_X7 tyX7 tyX7_ok nmX7 hown hK hI he_19 rfl 2 (by decide) (hg _ kf_X7_16) (fun _ h9 => h9) rfl hin rfl (by decide +kernel) rfl rfl hlen19 dX7_init_19 (fun H locs hI => ?_)
  have hI : x_I G (x_A h0 s.heap.size) s.heap (x_up h_17 x0 (.inr (7, (fs_19 : List Value).set 2 (.ref q_17)))) H locs := hI
  obtain ⟨h_19, eh_19⟩ : ∃ z : xH, z = x_up h_17 x0 (.inr (7, (fs_19 : List Value).set 2 (.ref q_17))) := ⟨_, rfl⟩
  rw [← eh_19] at hI
  have hw := hw h_19 eh_19
  have heh_19 : h_19 x0 = some (.inr (7, (fs_19 : List Value).set 2 (.ref q_17))) := by rw [eh_19]; exact x_up_s
  refine lv_aload_n hx hb dX7_init_22 rfl (lv_at hl 0 rfl) ?_
  refine lv_bipush (v := 40) hx hb dX7_init_23 (by decide) ?_
  obtain ⟨hneg25, hw⟩ := hw
  obtain ⟨z_25, hz25⟩ : ∃ z : Nat, (40 : Int32).toNatClampNeg = z := ⟨_, rfl⟩
  obtain ⟨hz225, hkc1, hks1, hw⟩ := hw z_25 hz25
  refine x_newi hx hb (hg _ ka_int) hK hI hneg25 hz25 (by omega) (show 0 + 1 + 1 ≤ mc by omega) (show 0 + z_17 + z_25 ≤ ms by omega) dX7_init_25 (fun q_25 H hfr25 hI => ?_)
  have hw := hw q_25 hfr25
  obtain ⟨h_25, eh_25⟩ : ∃ z : xH, z = x_up h_19 q_25 (.inl (0, z_25, .inl (fun _ => 0))) := ⟨_, rfl⟩
  rw [← eh_25] at hI
  have hw := hw h_25 eh_25
  have heh_25 : h_25 q_25 = some (.inl (0, z_25, .inl (fun _ => 0))) := by rw [eh_25]; exact x_up_s
  obtain ⟨fs_27, he_27, hw⟩ := hw
  obtain ⟨hlen27, hw⟩ := hw
  refine x_putF (ci := 7) (v := .ref q_25) (ty := .array .int) (C := RX7) (T := TX7) (N := 12) hx hb hg ku_X7 tyX7 tyX7_ok nmX7 hown hK hI he_27 rfl 3 (by decide) (hg _ kf_X7_20) (fun _ h9 => h9) rfl hin rfl (by decide +kernel) rfl rfl hlen27 dX7_init_27 (fun H locs hI => ?_)
  have hI : x_I G (x_A h0 s.heap.size) s.heap (x_up h_25 x0 (.inr (7, (fs_27 : List Value).set 3 (.ref q_25)))) H locs := hI
  obtain ⟨h_27, eh_27⟩ : ∃ z : xH, z = x_up h_25 x0 (.inr (7, (fs_27 : List Value).set 3 (.ref q_25))) := ⟨_, rfl⟩
  rw [← eh_27] at hI
  have hw := hw h_27 eh_27
  have heh_27 : h_27 x0 = some (.inr (7, (fs_27 : List Value).set 3 (.ref q_25))) := by rw [eh_27]; exact x_up_s
  refine lv_aload_n hx hb dX7_init_30 rfl (lv_at hl 0 rfl) ?_
  refine lv_iconst (v := 0) hx hb dX7_init_31 (by decide) ?_
  obtain ⟨hlen32, hw⟩ := hw
  refine x_put (ci := 7) (v := .int 0) (ty := .boolean) (C := RX7) (T := TX7) (N := 12) hx hb hg ku_X7 tyX7 tyX7_ok nmX7 hown hK hI heh_27 rfl 4 (by decide) (hg _ kf_X7_23) (fun _ h9 => h9) rfl (by decide +kernel) rfl rfl hlen32 dX7_init_32 (fun H locs hI => ?_)
  have hI : x_I G (x_A h0 s.heap.size) s.heap (x_up h_27 x0 (.inr (7, ((fs_27 : List Value).set 3 (.ref q_25) : List Value).set 4 (.int 0)))) H locs := hI
  obtain ⟨h_32, eh_32⟩ : ∃ z : xH, z = x_up h_27 x0 (.inr (7, ((fs_27 : List Value).set 3 (.ref q_25) : List Value).set 4 (.int 0))) := ⟨_, rfl⟩
  rw [← eh_32] at hI
  have hw := hw h_32 eh_32
  have heh_32 : h_32 x0 = some (.inr (7, ((fs_27 : List Value).set 3 (.ref q_25) : List Value).set 4 (.int 0))) := by rw [eh_32]; exact x_up_s
  refine lv_aload_n hx hb dX7_init_35 rfl (lv_at hl 0 rfl) ?_
  refine lv_iconst (v := 0) hx hb dX7_init_36 (by decide) ?_
  obtain ⟨hlen37, hw⟩ := hw
  refine x_put (ci := 7) (v := .int 0) (ty := .int) (C := RX7) (T := TX7) (N := 12) hx hb hg ku_X7 tyX7 tyX7_ok nmX7 hown hK hI heh_32 rfl 5 (by decide) (hg _ kf_X7_27) (fun _ h9 => h9) rfl (by decide +kernel) rfl rfl hlen37 dX7_init_37 (fun H locs hI => ?_)
  have hI : x_I G (x_A h0 s.heap.size) s.heap (x_up h_32 x0 (.inr (7, (((fs_27 : List Value).set 3 (.ref q_25) : List Value).set 4 (.int 0) : List Value).set 5 (.int 0)))) H locs := hI
  obtain ⟨h_37, eh_37⟩ : ∃ z : xH, z = x_up h_32 x0 (.inr (7, (((fs_27 : List Value).set 3 (.ref q_25) : List Value).set 4 (.int 0) : List Value).set 5 (.int 0))) := ⟨_, rfl⟩
  rw [← eh_37] at hI
  have hw := hw h_37 eh_37
  have heh_37 : h_37 x0 = some (.inr (7, (((fs_27 : List Value).set 3 (.ref q_25) : List Value).set 4 (.int 0) : List Value).set 5 (.int 0))) := by rw [eh_37]; exact x_up_s
  refine lv_aload_n hx hb dX7_init_40 rfl (lv_at hl 0 rfl) ?_
  refine lv_iconst (v := 0) hx hb dX7_init_41 (by decide) ?_
  obtain ⟨hlen42, hw⟩ := hw
  refine x_put (ci := 7) (v := .int 0) (ty := .int) (C := RX7) (T := TX7) (N := 12) hx hb hg ku_X7 tyX7 tyX7_ok nmX7 hown hK hI heh_37 rfl 6 (by decide) (hg _ kf_X7_30) (fun _ h9 => h9) rfl (by decide +kernel) rfl rfl hlen42 dX7_init_42 (fun H locs hI => ?_)
  have hI : x_I G (x_A h0 s.heap.size) s.heap (x_up h_37 x0 (.inr (7, ((((fs_27 : List Value).set 3 (.ref q_25) : List Value).set 4 (.int 0) : List Value).set 5 (.int 0) : List Value).set 6 (.int 0)))) H locs := hI
  obtain ⟨h_42, eh_42⟩ : ∃ z : xH, z = x_up h_37 x0 (.inr (7, ((((fs_27 : List Value).set 3 (.ref q_25) : List Value).set 4 (.int 0) : List Value).set 5 (.int 0) : List Value).set 6 (.int 0))) := ⟨_, rfl⟩
  rw [← eh_42] at hI
  have hw := hw h_42 eh_42
  have heh_42 : h_42 x0 = some (.inr (7, ((((fs_27 : List Value).set 3 (.ref q_25) : List Value).set 4 (.int 0) : List Value).set 5 (.int 0) : List Value).set 6 (.int 0))) := by rw [eh_42]; exact x_up_s
  refine lv_aload_n hx hb dX7_init_45 rfl (lv_at hl 0 rfl) ?_
  refine lv_iconst (v := 0) hx hb dX7_init_46 (by decide) ?_
  obtain ⟨hlen47, hw⟩ := hw
  refine x_put (ci := 7) (v := .int 0) (ty := .int) (C := RX7) (T := TX7) (N := 12) hx hb hg ku_X7 tyX7 tyX7_ok nmX7 hown hK hI heh_42 rfl 7 (by decide) (hg _ kf_X7_33) (fun _ h9 => h9) rfl (by decide +kernel) rfl rfl hlen47 dX7_init_47 (fun H locs hI => ?_)
  have hI : x_I G (x_A h0 s.heap.size) s.heap (x_up h_42 x0 (.inr (7, (((((fs_27 : List Value).set 3 (.ref q_25) : List Value).set 4 (.int 0) : List Value).set 5 (.int 0) : List Value).set 6 (.int 0) : List Value).set 7 (.int 0)))) H locs := hI
  obtain ⟨h_47, eh_47⟩ : ∃ z : xH, z = x_up h_42 x0 (.inr (7, (((((fs_27 : List Value).set 3 (.ref q_25) : List Value).set 4 (.int 0) : List Value).set 5 (.int 0) : List Value).set 6 (.int 0) : List Value).set 7 (.int 0))) := ⟨_, rfl⟩
  rw [← eh_47] at hI
  have hw := hw h_47 eh_47
  have heh_47 : h_47 x0 = some (.inr (7, (((((fs_27 : List Value).set 3 (.ref q_25) : List Value).set 4 (.int 0) : List Value).set 5 (.int 0) : List Value).set 6 (.int 0) : List Value).set 7 (.int 0))) := by rw [eh_47]; exact x_up_s
  refine lv_aload_n hx hb dX7_init_50 rfl (lv_at hl 0 rfl) ?_
  refine lv_ldc (v := 96000) hx hb hown (hg _ kc_X7_36) dX7_init_51 ?_
  obtain ⟨hneg53, hw⟩ := hw
  obtain ⟨z_53, hz53⟩ : ∃ z : Nat, (96000 : Int32).toNatClampNeg = z := ⟨_, rfl⟩
  obtain ⟨hz253, hkc1, hks1, hw⟩ := hw z_53 hz53
  refine x_newi hx hb (hg _ ka_int) hK hI hneg53 hz53 (by omega) (show 0 + 1 + 1 + 1 ≤ mc by omega) (show 0 + z_17 + z_25 + z_53 ≤ ms by omega) dX7_init_53 (fun q_53 H hfr53 hI => ?_)
  have hw := hw q_53 hfr53
  obtain ⟨h_53, eh_53⟩ : ∃ z : xH, z = x_up h_47 q_53 (.inl (0, z_53, .inl (fun _ => 0))) := ⟨_, rfl⟩
  rw [← eh_53] at hI
  have hw := hw h_53 eh_53
  have heh_53 : h_53 q_53 = some (.inl (0, z_53, .inl (fun _ => 0))) := by rw [eh_53]; exact x_up_s
  obtain ⟨fs_55, he_55, hw⟩ := hw
  obtain ⟨hlen55, hw⟩ := hw
  refine x_putF (ci := 7) (v := .ref q_53) (ty := .array .int) (C := RX7) (T := TX7) (N := 12) hx hb hg ku_X7 tyX7 tyX7_ok nmX7 hown hK hI he_55 rfl 8 (by decide) (hg _ kf_X7_37) (fun _ h9 => h9) rfl hin rfl (by decide +kernel) rfl rfl hlen55 dX7_init_55 (fun H locs hI => ?_)
  have hI : x_I G (x_A h0 s.heap.size) s.heap (x_up h_53 x0 (.inr (7, (fs_55 : List Value).set 8 (.ref q_53)))) H locs := hI
  obtain ⟨h_55, eh_55⟩ : ∃ z : xH, z = x_up h_53 x0 (.inr (7, (fs_55 : List Value).set 8 (.ref q_53))) := ⟨_, rfl⟩
  rw [← eh_55] at hI
  have hw := hw h_55 eh_55
  have heh_55 : h_55 x0 = some (.inr (7, (fs_55 : List Value).set 8 (.ref q_53))) := by rw [eh_55]; exact x_up_s
  refine lv_aload_n hx hb dX7_init_58 rfl (lv_at hl 0 rfl) ?_
  refine lv_bipush (v := 64) hx hb dX7_init_59 (by decide) ?_
  obtain ⟨hneg61, hw⟩ := hw
  obtain ⟨z_61, hz61⟩ : ∃ z : Nat, (64 : Int32).toNatClampNeg = z := ⟨_, rfl⟩
  obtain ⟨hz261, hkc1, hks1, hw⟩ := hw z_61 hz61
  refine x_newi hx hb (hg _ ka_int) hK hI hneg61 hz61 (by omega) (show 0 + 1 + 1 + 1 + 1 ≤ mc by omega) (show 0 + z_17 + z_25 + z_53 + z_61 ≤ ms by omega) dX7_init_61 (fun q_61 H hfr61 hI => ?_)
  have hw := hw q_61 hfr61
  obtain ⟨h_61, eh_61⟩ : ∃ z : xH, z = x_up h_55 q_61 (.inl (0, z_61, .inl (fun _ => 0))) := ⟨_, rfl⟩
  rw [← eh_61] at hI
  have hw := hw h_61 eh_61
  have heh_61 : h_61 q_61 = some (.inl (0, z_61, .inl (fun _ => 0))) := by rw [eh_61]; exact x_up_s
  obtain ⟨fs_63, he_63, hw⟩ := hw
  obtain ⟨hlen63, hw⟩ := hw
  refine x_putF (ci := 7) (v := .ref q_61) (ty := .array .int) (C := RX7) (T := TX7) (N := 12) hx hb hg ku_X7 tyX7 tyX7_ok nmX7 hown hK hI he_63 rfl 9 (by decide) (hg _ kf_X7_40) (fun _ h9 => h9) rfl hin rfl (by decide +kernel) rfl rfl hlen63 dX7_init_63 (fun H locs hI => ?_)
  have hI : x_I G (x_A h0 s.heap.size) s.heap (x_up h_61 x0 (.inr (7, (fs_63 : List Value).set 9 (.ref q_61)))) H locs := hI
  obtain ⟨h_63, eh_63⟩ : ∃ z : xH, z = x_up h_61 x0 (.inr (7, (fs_63 : List Value).set 9 (.ref q_61))) := ⟨_, rfl⟩
  rw [← eh_63] at hI
  have hw := hw h_63 eh_63
  have heh_63 : h_63 x0 = some (.inr (7, (fs_63 : List Value).set 9 (.ref q_61))) := by rw [eh_63]; exact x_up_s
  refine lv_aload_n hx hb dX7_init_66 rfl (lv_at hl 0 rfl) ?_
  refine lv_bipush (v := 24) hx hb dX7_init_67 (by decide) ?_
  obtain ⟨hneg69, hw⟩ := hw
  obtain ⟨z_69, hz69⟩ : ∃ z : Nat, (24 : Int32).toNatClampNeg = z := ⟨_, rfl⟩
  obtain ⟨hz269, hkc1, hks1, hw⟩ := hw z_69 hz69
  refine x_newi hx hb (hg _ ka_int) hK hI hneg69 hz69 (by omega) (show 0 + 1 + 1 + 1 + 1 + 1 ≤ mc by omega) (show 0 + z_17 + z_25 + z_53 + z_61 + z_69 ≤ ms by omega) dX7_init_69 (fun q_69 H hfr69 hI => ?_)
  have hw := hw q_69 hfr69
  obtain ⟨h_69, eh_69⟩ : ∃ z : xH, z = x_up h_63 q_69 (.inl (0, z_69, .inl (fun _ => 0))) := ⟨_, rfl⟩
  rw [← eh_69] at hI
  have hw := hw h_69 eh_69
  have heh_69 : h_69 q_69 = some (.inl (0, z_69, .inl (fun _ => 0))) := by rw [eh_69]; exact x_up_s
  obtain ⟨fs_71, he_71, hw⟩ := hw
  obtain ⟨hlen71, hw⟩ := hw
  refine x_putF (ci := 7) (v := .ref q_69) (ty := .array .int) (C := RX7) (T := TX7) (N := 12) hx hb hg ku_X7 tyX7 tyX7_ok nmX7 hown hK hI he_71 rfl 10 (by decide) (hg _ kf_X7_43) (fun _ h9 => h9) rfl hin rfl (by decide +kernel) rfl rfl hlen71 dX7_init_71 (fun H locs hI => ?_)
  have hI : x_I G (x_A h0 s.heap.size) s.heap (x_up h_69 x0 (.inr (7, (fs_71 : List Value).set 10 (.ref q_69)))) H locs := hI
  obtain ⟨h_71, eh_71⟩ : ∃ z : xH, z = x_up h_69 x0 (.inr (7, (fs_71 : List Value).set 10 (.ref q_69))) := ⟨_, rfl⟩
  rw [← eh_71] at hI
  have hw := hw h_71 eh_71
  have heh_71 : h_71 x0 = some (.inr (7, (fs_71 : List Value).set 10 (.ref q_69))) := by rw [eh_71]; exact x_up_s
  refine lv_aload_n hx hb dX7_init_74 rfl (lv_at hl 0 rfl) ?_
  refine lv_sipush (v := 3010) hx hb dX7_init_75 (by decide) ?_
  obtain ⟨hneg78, hw⟩ := hw
  obtain ⟨z_78, hz78⟩ : ∃ z : Nat, (3010 : Int32).toNatClampNeg = z := ⟨_, rfl⟩
  obtain ⟨hz278, hkc1, hks1, hw⟩ := hw z_78 hz78
  refine x_newi hx hb (hg _ ka_int) hK hI hneg78 hz78 (by omega) (show 0 + 1 + 1 + 1 + 1 + 1 + 1 ≤ mc by omega) (show 0 + z_17 + z_25 + z_53 + z_61 + z_69 + z_78 ≤ ms by omega) dX7_init_78 (fun q_78 H hfr78 hI => ?_)
  have hw := hw q_78 hfr78
  obtain ⟨h_78, eh_78⟩ : ∃ z : xH, z = x_up h_71 q_78 (.inl (0, z_78, .inl (fun _ => 0))) := ⟨_, rfl⟩
  rw [← eh_78] at hI
  have hw := hw h_78 eh_78
  have heh_78 : h_78 q_78 = some (.inl (0, z_78, .inl (fun _ => 0))) := by rw [eh_78]; exact x_up_s
  obtain ⟨fs_80, he_80, hw⟩ := hw
  obtain ⟨hlen80, hw⟩ := hw
  refine x_putF (ci := 7) (v := .ref q_78) (ty := .array .int) (C := RX7) (T := TX7) (N := 12) hx hb hg ku_X7 tyX7 tyX7_ok nmX7 hown hK hI he_80 rfl 11 (by decide) (hg _ kf_X7_46) (fun _ h9 => h9) rfl hin rfl (by decide +kernel) rfl rfl hlen80 dX7_init_80 (fun H locs hI => ?_)
  have hI : x_I G (x_A h0 s.heap.size) s.heap (x_up h_78 x0 (.inr (7, (fs_80 : List Value).set 11 (.ref q_78)))) H locs := hI
  obtain ⟨h_80, eh_80⟩ : ∃ z : xH, z = x_up h_78 x0 (.inr (7, (fs_80 : List Value).set 11 (.ref q_78))) := ⟨_, rfl⟩
  rw [← eh_80] at hI
  have hw := hw h_80 eh_80
  have heh_80 : h_80 x0 = some (.inr (7, (fs_80 : List Value).set 11 (.ref q_78))) := by rw [eh_80]; exact x_up_s
  refine lv_aload_n hx hb dX7_init_83 rfl (lv_at hl 0 rfl) ?_
  refine lv_iconst (v := 1) hx hb dX7_init_84 (by decide) ?_
  refine x_cv (va_runV (As := [.int 1]) (rest := []) ⟨hx, hb, hml, hown, hg⟩ (m_A7_fresh l G h_80  x0 1 _ hw H.size) (cwV 1 hg (x_gV km_X7_49 ki_X7_fresh kz_X7_X7_fresh kn_X7 kk_X7_fresh) rfl rfl rfl (by decide +kernel) ⟨Nat.le_of_ble_eq_true rfl, Nat.le_of_ble_eq_true rfl⟩) ⟨x_blind, x_recv hI hK heh_80 rfl rfl, x_pre hI hK⟩ rfl rfl hl.1 rfl (lv_room (Nat.le_of_ble_eq_true rfl)) dX7_init_85 ⟨show 0 + 1 + 1 + 1 + 1 + 1 + 1 + 0 ≤ mc by omega, show 0 + z_17 + z_25 + z_53 + z_61 + z_69 + z_78 + 0 ≤ ms by omega⟩) hI (fun h_85 H locs hw hI => ?_)
  exact x_vret hx hb hr hlocks hI hw (by omega) (by omega) dX7_init_88
end XB_x7i
