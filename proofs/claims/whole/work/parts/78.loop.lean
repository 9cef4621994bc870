/-! ===== the law's loop (own work) ===== -/
theorem sub6 {L c : Nat} (hL : L ≤ 3072) (hc : c ≤ 3072) : ((Int32.ofNat L) - 6 < nI (6 * c)) ↔ L < 6 * c + 6 := by
  rw [show (Int32.ofNat L) = nI L from rfl, nI_iI, nI_iI, show (6 : Int32) = iI 6 from rfl, iI_sub, iI_lt (by omega) (by omega)]
  omega
set_option maxHeartbeats 4000000 in
set_option maxRecDepth 100000 in
theorem law_loop {L : Nat} {xs : Nat → Int32} {post : Unit} {K131 : xH → Nat → Nat → Prop} {K215 : xH → Nat → Nat → Prop} {K239 : xH → Nat → Nat → Prop} {K266 : xH → Nat → Nat → Prop} {K283 : xH → Nat → Nat → Prop} {K334 : xH → Nat → Nat → Prop} {K351 : xH → Nat → Nat → Prop} {K414 : xH → Nat → Nat → Prop} {K431 : xH → Nat → Nat → Prop} {K506 : xH → Nat → Nat → Prop} {K523 : xH → Nat → Nat → Prop} {K610 : xH → Nat → Nat → Prop} {K627 : xH → Nat → Nat → Prop} {K702 : xH → Nat → Nat → Prop} {K718 : xH → Nat → Nat → Prop} {K805 : xH → Nat → Nat → Prop} {K822 : xH → Nat → Nat → Prop} {K850 : xH → Nat → Nat → Prop} {K858 : xH → Nat → Nat → Prop} {x1 x2 x3 : Nat} (hL : L ≤ 3072) (kend : ∀ h kc ks, K858 h kc ks) :
    ∀ (r c : Nat) (h : xH) (kc ks : Nat) (s : AS), L / 6 = c + r → INV h x1 x2 x3 s → 600 * r ≤ kc → 3900 * r + pot s ≤ ks → wl_L_law_23 L xs post K131 K215 K239 K266 K283 K334 K351 K414 K431 K506 K523 K610 K627 K702 K718 K805 K822 K850 K858 (r + 1) h kc ks x1 x2 x3 (nI (6 * c)) := by
  intro r
  induction r with
  | zero =>
    intro c h kc ks s hr I hkc hks
    rw [wl_L_law_23, sub6 hL (by omega)]
    exact ⟨fun _ => kend _ _ _, fun z => absurd (by omega) z⟩
  | succ r ih =>
    intro c h kc ks s hr I hkc hks
    have hc : 6 * c + 6 ≤ L := by omega
    have goon : ∀ (h' : xH) (kc' ks' : Nat) (s' : AS), INV h' x1 x2 x3 s' → 600 * r ≤ kc' → 3900 * r + pot s' ≤ ks' → wj_L_law_852 L xs post (wl_L_law_23 L xs post K131 K215 K239 K266 K283 K334 K351 K414 K431 K506 K523 K610 K627 K702 K718 K805 K822 K850 K858 (r + 1)) K131 K215 K239 K266 K283 K334 K351 K414 K431 K506 K523 K610 K627 K702 K718 K805 K822 K850 K858 h' kc' ks' x1 x2 x3 (nI (6 * c)) := by
      intro h' kc' ks' s' I' b1 b2 x4 e4
      have : x4 = nI (6 * (c + 1)) := by
        rw [e4, show (6 : Int32) = nI 6 from rfl, nI_add]
        rfl
      rw [this]
      exact ih (c + 1) h' kc' ks' s' (by omega) I' b1 b2
    have e1 : nI (6 * c) + 1 = nI (6 * c + 1) := by rw [show (1 : Int32) = nI 1 from rfl, nI_add]
    have e2 : nI (6 * c) + 2 = nI (6 * c + 2) := by rw [show (2 : Int32) = nI 2 from rfl, nI_add]
    have e3 : nI (6 * c) + 3 = nI (6 * c + 3) := by rw [show (3 : Int32) = nI 3 from rfl, nI_add]
    have e4 : nI (6 * c) + 4 = nI (6 * c + 4) := by rw [show (4 : Int32) = nI 4 from rfl, nI_add]
    have e5 : nI (6 * c) + 5 = nI (6 * c + 5) := by rw [show (5 : Int32) = nI 5 from rfl, nI_add]
    have v0 : vp_in (nI (6 * c)) L := vp_in_nI (by omega) (by omega)
    have v1 : vp_in (nI (6 * c) + 1) L := by rw [e1]; exact vp_in_nI (by omega) (by omega)
    have v2 : vp_in (nI (6 * c) + 2) L := by rw [e2]; exact vp_in_nI (by omega) (by omega)
    have v3 : vp_in (nI (6 * c) + 3) L := by rw [e3]; exact vp_in_nI (by omega) (by omega)
    have v4 : vp_in (nI (6 * c) + 4) L := by rw [e4]; exact vp_in_nI (by omega) (by omega)
    have v5 : vp_in (nI (6 * c) + 5) L := by rw [e5]; exact vp_in_nI (by omega) (by omega)
    rw [wl_L_law_23, sub6 hL (by omega)]
    refine ⟨fun z => absurd z (by omega), fun _ => ⟨v0, fun _ => goon h kc ks s I (by omega) (by omega), fun _ => ?_, fun _ => ?_, fun _ => ?_, fun _ => ?_, fun _ => ?_, fun _ => ?_, fun _ => ?_, fun _ => ?_, fun _ => ?_, fun _ => ?_, fun _ => ?_⟩⟩
    · obtain ⟨s', hp, W⟩ := l_begin I (xs (nI (6 * c) + 1 : Int32).toNatClampNeg)
      exact ⟨v1, 600, 3900 + (pot s - pot s'), by omega, by omega, W (Nat.le_refl _) (Nat.le_refl _) v1 (fun h' I' => goon h' _ _ s' I' (by omega) (by omega))⟩
    · obtain ⟨s', hp, W⟩ := l_set I (xs (nI (6 * c) + 1 : Int32).toNatClampNeg) (xs (nI (6 * c) + 2 : Int32).toNatClampNeg) (xs (nI (6 * c) + 3 : Int32).toNatClampNeg) (xs (nI (6 * c) + 4 : Int32).toNatClampNeg) (xs (nI (6 * c) + 5 : Int32).toNatClampNeg)
      exact ⟨v1, v2, v3, v4, v5, 600, 3900 + (pot s - pot s'), by omega, by omega, W (Nat.le_refl _) (Nat.le_refl _) v1 v2 v3 v4 v5 (fun h' I' => goon h' _ _ s' I' (by omega) (by omega))⟩
    · obtain ⟨s', hp, W⟩ := l_start I
      exact ⟨600, 3900 + (pot s - pot s'), by omega, by omega, W (Nat.le_refl _) (Nat.le_refl _) (fun h' I' => goon h' _ _ s' I' (by omega) (by omega))⟩
    · obtain ⟨s', hp, W⟩ := l_predict I
      exact ⟨600, 3900 + (pot s - pot s'), by omega, by omega, W (Nat.le_refl _) (Nat.le_refl _) (fun h' I' => goon h' _ _ s' I' (by omega) (by omega))⟩
    · obtain ⟨s', hp, W⟩ := l_measure I (xs (nI (6 * c) + 1 : Int32).toNatClampNeg) (xs (nI (6 * c) + 2 : Int32).toNatClampNeg)
      exact ⟨v1, v2, 600, 3900 + (pot s - pot s'), by omega, by omega, W (Nat.le_refl _) (Nat.le_refl _) v1 v2 (fun h' I' => goon h' _ _ s' I' (by omega) (by omega))⟩
    · exact ⟨v1, v2, v3, 600, 3900, by omega, by omega, l_sign I _ _ _ (Nat.le_refl _) (Nat.le_refl _) v1 v2 v3 (fun h' I' => goon h' _ _ s I' (by omega) (by omega))⟩
    · exact ⟨v1, v2, v3, v4, 600, 3900, by omega, by omega, l_pieces I _ _ _ _ (Nat.le_refl _) (Nat.le_refl _) v1 v2 v3 v4 (fun h' I' => goon h' _ _ s I' (by omega) (by omega))⟩
    · exact ⟨v1, v2, v3, v4, v5, 600, 3900, by omega, by omega, l_piece I _ _ _ _ _ (Nat.le_refl _) (Nat.le_refl _) v1 v2 v3 v4 v5 (fun h' I' => goon h' _ _ s I' (by omega) (by omega))⟩
    · exact ⟨v1, v2, v3, v4, 600, 3900, by omega, by omega, l_scaled I _ _ _ _ (Nat.le_refl _) (Nat.le_refl _) v1 v2 v3 v4 (fun h' I' => goon h' _ _ s I' (by omega) (by omega))⟩
    · exact ⟨v1, v2, v3, v4, v5, 600, 3900, by omega, by omega, l_compare I _ _ _ _ _ (Nat.le_refl _) (Nat.le_refl _) v1 v2 v3 v4 v5 (fun h' I' => goon h' _ _ s I' (by omega) (by omega))⟩
    · exact ⟨v1, l_about I _ v1 (fun h' I' => goon h' _ _ s I' (by omega) (by omega))⟩
