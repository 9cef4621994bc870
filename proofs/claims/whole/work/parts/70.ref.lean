/-! ===== the reference's public methods over the state: fit, fresh, begin, set (own work) ===== -/
theorem e_noFr {x y : Int32} {post : Int32 → Prop} (k0 : ∀ a b, isFr x y a b → post 0) (k1 : (¬ ∃ a b, isFr x y a b) → post 1) : wp_X7_noFraction x y post := by
  obtain ⟨a, rfl, ha⟩ := i32_rng x
  obtain ⟨b, rfl, hb⟩ := i32_rng y
  rw [isFr_of ha hb] at k1
  rw [wp_X7_noFraction, show (-20 : Int32) = iI (-20) from rfl, show (20 : Int32) = iI 20 from rfl, show (1 : Int32) = iI 1 from rfl, iI_lt ha (by decide), iI_lt (by decide) ha, iI_lt hb (by decide), iI_le hb (by decide)]
  refine ⟨fun w => k1 (by omega), fun w1 => ⟨fun w => k1 (by omega), fun w2 => ⟨fun w => k1 (by omega), fun w3 => ⟨fun w4 => ?_, fun w => k1 (by omega)⟩⟩⟩⟩
  obtain ⟨a', b', h'⟩ := (isFr_of ha hb).mpr ⟨by omega, by omega, by omega, by omega⟩
  exact k0 a' b' h'
theorem bnd4 {a b c d : Int} {n : Nat} (ha : a.natAbs ≤ 20) (hb : b.natAbs ≤ 20) (hc : c.natAbs ≤ 20) (hd : d.natAbs ≤ 20) : -9223372036854775808 ≤ a * b * c * d ∧ a * b * c * d < 9223372036854775808 := by
  have := mul_b (mul_b (mul_b ha hb) hc) hd
  omega
theorem e_fit {ab be : Nat → Int32} {an : Nat → Int} {ad : Nat → Nat} {n k : Nat} {post : Int32 → Prop} (hM : MD ab be an ad) (n1 : 1 ≤ n) (n2 : n ≤ 2) (hk : k ≤ 6) (k1 : fitP n k an ad → post 1) (k0 : ¬ fitP n k an ad → post 0) : wp_X7_fit (nI n) ab be (nI k) post := by
  obtain ⟨a1, a2, a3, a4, a5⟩ := hM (4 * k) (by omega)
  obtain ⟨b1, b2, b3, b4, b5⟩ := hM (4 * k + 1) (by omega)
  obtain ⟨d1, d2, d3, d4, d5⟩ := hM (4 * k + 3) (by omega)
  have e00 : (4 * nI k + 2 * 0 + 0 : Int32) = nI (4 * k) := at_nI k 0 0
  have e01 : (4 * nI k + 2 * 0 + 1 : Int32) = nI (4 * k + 1) := at_nI k 0 1
  have e11 : (4 * nI k + 2 * 1 + 1 : Int32) = nI (4 * k + 3) := at_nI k 1 1
  simp only [wp_X7_fit, wp_X7_at, e00, e11]
  refine ⟨vp_in_nI (by omega) (by decide), fun x2 h2 => ⟨vp_in_nI (by omega) (by decide), fun x4 h4 => ?_⟩⟩
  rw [nI_clamp (by omega), a1, iI_l (by omega) (by omega)] at h2
  rw [nI_clamp (by omega), d1, iI_l (by omega) (by omega)] at h4
  subst h2
  subst h4
  rw [show (0 : Int64) = lI 0 from rfl, lI_lt (by omega) (by decide), lI_le (by decide) (by omega), show (2 : Int32) = nI 2 from rfl, nI_eq (by omega) (by decide)]
  have key : 0 ≤ an (4 * k) → (n = 2 → 0 ≤ an (4 * k + 3)) → wj_X7_fit_50 (nI n) ab be post (nI k) (lI (an (4 * k))) (lI (an (4 * k + 3))) := by
    intro h1 h2
    rw [wj_X7_fit_50, show (1 : Int32) = nI 1 from rfl, nI_eq (by omega) (by decide)]
    refine ⟨fun hn => ?_, fun hn => k1 ⟨h1, fun z => by omega⟩⟩
    obtain rfl : n = 2 := by omega
    rw [show nI 1 = (1 : Int32) from rfl]
    simp only [wp_X7_at, e00, e01, e11]
    refine ⟨vp_in_nI (by omega) (by decide), fun x6 h6 => ⟨vp_in_nI (by omega) (by decide), fun x8 h8 => ⟨vp_in_nI (by omega) (by decide), vp_in_nI (by omega) (by decide), ?_⟩⟩⟩
    rw [nI_clamp (by omega), b1, iI_l (by omega) (by omega)] at h6
    rw [nI_clamp (by omega), b2, i_l _ (by omega)] at h8
    rw [nI_clamp (by omega), nI_clamp (by omega), a2, d2, i_l _ (by omega), i_l _ (by omega)]
    subst h6
    subst h8
    rw [lI_mul, lI_mul, lI_mul, lI_mul, lI_mul, lI_mul, lI_lt (bnd4 (n := 0) a3 d3 (by omega) (by omega)) (bnd4 (n := 0) b3 b3 (by omega) (by omega))]
    exact ⟨fun hc => ⟨rfl, k0 (fun z => by have := (z.2 rfl).2; omega)⟩, fun hc => ⟨rfl, k1 ⟨h1, fun _ => ⟨h2 rfl, by omega⟩⟩⟩⟩
  exact ⟨fun hc => k0 (fun z => by have := z.1; omega), fun hc => ⟨fun hn => key (by omega) (fun z => absurd z hn), fun hn => ⟨fun h4 => key (by omega) (fun _ => h4), fun h4 => k0 (fun z => h4 (z.2 hn).1)⟩⟩⟩
theorem hasM_of {n : Nat} {a b c : Int} (ha : -2147483648 ≤ a ∧ a < 2147483648) (hb : -2147483648 ≤ b ∧ b < 2147483648) (hc : -2147483648 ≤ c ∧ c < 2147483648) (hn : n ≤ 2) : hasM n (iI a) (iI b) (iI c) ↔ (0 ≤ a ∧ a < 7 ∧ 0 ≤ b ∧ 0 ≤ c ∧ b < (if a = 6 then 1 else (n : Int)) ∧ c < (if a = 1 ∨ a = 2 ∨ a = 4 then (n : Int) else 1)) := by
  constructor
  · rintro ⟨k, i, j, e1, e2, e3, hk, hi, hj⟩
    have hr : rk n k ≤ 2 := by unfold rk; split <;> omega
    have hcc : ck n k ≤ 2 := by unfold ck; split <;> omega
    rw [nI_iI, iI_eq ha (by omega)] at e1
    rw [nI_iI, iI_eq hb (by omega)] at e2
    rw [nI_iI, iI_eq hc (by omega)] at e3
    subst e1
    subst e2
    subst e3
    refine ⟨by omega, by omega, by omega, by omega, ?_, ?_⟩
    · unfold rk at hi
      split at hi <;> split <;> omega
    · unfold ck at hj
      split at hj <;> split <;> omega
  · rintro ⟨h1, h2, h3, h4, h5, h6⟩
    obtain ⟨k, rfl⟩ : ∃ k : Nat, a = (k : Int) := ⟨a.toNat, by omega⟩
    obtain ⟨i, rfl⟩ : ∃ k : Nat, b = (k : Int) := ⟨b.toNat, by omega⟩
    obtain ⟨j, rfl⟩ : ∃ k : Nat, c = (k : Int) := ⟨c.toNat, by omega⟩
    refine ⟨k, i, j, (nI_iI _).symm, (nI_iI _).symm, (nI_iI _).symm, by omega, ?_, ?_⟩
    · unfold rk
      split at h5 <;> split <;> omega
    · unfold ck
      split at h6 <;> split <;> omega
theorem e_noModel {n : Nat} {x1 x2 x3 : Int32} {post : Int32 → Prop} (n1 : 1 ≤ n) (n2 : n ≤ 2) (k0 : hasM n x1 x2 x3 → post 0) (k1 : ¬ hasM n x1 x2 x3 → post 1) : wp_X7_noModel (nI n) x1 x2 x3 post := by
  obtain ⟨a, rfl, ha⟩ := i32_rng x1
  obtain ⟨b, rfl, hb⟩ := i32_rng x2
  obtain ⟨c, rfl, hc⟩ := i32_rng x3
  rw [hasM_of ha hb hc n2] at k0 k1
  have hnn : -2147483648 ≤ (n : Int) ∧ (n : Int) < 2147483648 := by omega
  simp only [wp_X7_noModel, wj_X7_noModel_18, wj_X7_noModel_35, wj_X7_noModel_40, wj_X7_noModel_57, wj_X7_noModel_74, wj_X7_noModel_77, wj_X7_noModel_82]
  rw [nI_iI, show (0 : Int32) = iI 0 from rfl, show (1 : Int32) = iI 1 from rfl, show (2 : Int32) = iI 2 from rfl, show (4 : Int32) = iI 4 from rfl, show (6 : Int32) = iI 6 from rfl]
  rw [iI_lt ha (by decide), iI_lt (by decide) ha, iI_lt hb (by decide), iI_le (by decide) hc, iI_eq ha (by decide), iI_eq ha (by decide), iI_eq ha (by decide), iI_eq ha (by decide), iI_le hnn hb, iI_le (by decide) hb, iI_lt hc (by decide), iI_lt hc hnn]
  have t0 : narrow .boolean (.int (iI 0)) = .int (iI 0) := rfl
  have t1 : narrow .boolean (.int (iI 1)) = .int (iI 1) := rfl
  have d1 : (iI 1 : Int32) ≠ iI 0 := by decide
  have d0 : (iI 0 : Int32) = iI 0 := rfl
  have K1 : ¬ (0 ≤ a ∧ a < 7 ∧ 0 ≤ b ∧ 0 ≤ c ∧ b < (if a = 6 then 1 else (n : Int)) ∧ c < (if a = 1 ∨ a = 2 ∨ a = 4 then (n : Int) else 1)) → narrow .boolean (.int (iI 1)) = .int (iI 1) ∧ post (iI 1) := fun z => ⟨t1, k1 z⟩
  have K0 : (0 ≤ a ∧ a < 7 ∧ 0 ≤ b ∧ 0 ≤ c ∧ b < (if a = 6 then 1 else (n : Int)) ∧ c < (if a = 1 ∨ a = 2 ∨ a = 4 then (n : Int) else 1)) → narrow .boolean (.int (iI 0)) = .int (iI 0) ∧ post (iI 0) := fun z => ⟨t0, k0 z⟩
  have part : ∀ (tt : Int32) (r c' : Int), (tt = iI 0 ↔ ¬ (a = 1 ∨ a = 2 ∨ a = 4)) → True := fun _ _ _ _ => trivial
  refine ⟨fun w => k1 (by intro z; omega), fun w1 => ⟨fun w => k1 (by intro z; omega), fun w2 => ⟨fun w => k1 (by intro z; omega), fun w3 => ⟨fun w4 => ?_, fun w => k1 (by intro z; omega)⟩⟩⟩⟩
  refine ⟨fun q1 => ?_, fun q1 => ⟨fun q2 => ?_, fun q2 => ⟨fun q4 => ?_, fun q4 => ?_⟩⟩⟩
  all_goals
    refine ⟨fun q6 => ⟨fun w5 => K1 (by intro z; obtain ⟨-, -, -, -, z5, z6⟩ := z; split at z5 <;> split at z6 <;> omega), fun w5 => ⟨fun w6 => ?_, fun w6 => ?_⟩⟩, fun q6 => ⟨fun w5 => K1 (by intro z; obtain ⟨-, -, -, -, z5, z6⟩ := z; split at z5 <;> split at z6 <;> omega), fun w5 => ⟨fun w6 => ?_, fun w6 => ?_⟩⟩⟩
  all_goals
    first
    | exact False.elim w6
    | exact absurd trivial w6
    | exact absurd w6 d1
    | exact absurd d0 w6
    | exact ⟨fun w7 => K0 (by refine ⟨by omega, by omega, by omega, by omega, ?_, ?_⟩ <;> split <;> omega), fun w7 => K1 (by intro z; obtain ⟨-, -, -, -, z5, z6⟩ := z; split at z5 <;> split at z6 <;> omega)⟩
theorem e_fresh_7 {post : Int32 → Int32 → Int32 → Int32 → (Nat → Int32) → (Nat → Int32) → Prop} {K : Int32 → Int32 → Int32 → Int32 → (Nat → Int32) → (Nat → Int32) → Int32 → Prop} {sz sd pr me x1 : Int32} (k : ∀ ab be, (∀ i, i < 40 → ab i = 0 ∧ be i = 1) → K sz sd pr me ab be x1) :
    ∀ (m i : Nat) (ab be : Nat → Int32), i + m = 40 → (∀ j, j < i → ab j = 0 ∧ be j = 1) → wl_X7_fresh_7 post K (m + 1) sz sd pr me ab be x1 (nI i) := by
  intro m
  induction m with
  | zero =>
    intro i ab be him h
    obtain rfl : i = 40 := by omega
    rw [wl_X7_fresh_7]
    exact ⟨fun _ => k ab be h, fun hc => absurd (by decide) hc⟩
  | succ m ih =>
    intro i ab be him h
    rw [wl_X7_fresh_7]
    refine ⟨fun hc => absurd (show nI 40 ≤ nI i from hc) (nI_ge (by omega) (by decide)), fun _ => ⟨vp_in_nI (by omega) (by decide), vp_in_nI (by omega) (by decide), fun x hx => ?_⟩⟩
    subst hx
    rw [nI_1, nI_clamp (by omega)]
    refine ih (i + 1) _ _ (by omega) (fun j hj => ?_)
    by_cases hji : j = i
    · subst hji
      rw [upd_s, upd_s]
      exact ⟨rfl, rfl⟩
    · rw [upd_n hji, upd_n hji]
      exact h j (by omega)
theorem e_fresh {sz sd pr me : Int32} {ab be : Nat → Int32} {n : Nat} {post : Int32 → Int32 → Int32 → Int32 → (Nat → Int32) → (Nat → Int32) → Prop} (n1 : 1 ≤ n) (n2 : n ≤ 2) (k : ∀ ab' be', MD ab' be' (an0 n) (fun _ => 1) → post (nI n) 0 0 0 ab' be') : wp_X7_fresh sz sd pr me ab be (nI n) post := by
  rw [wp_X7_fresh]
  refine ⟨40 + 1, e_fresh_7 (fun ab be h => ⟨3, ?_⟩) 40 0 ab be (by omega) (fun j hj => absurd hj (by omega))⟩
  have fin : ∀ ab' : Nat → Int32, (∀ i, i < 40 → ab' i = if i = 24 then 1 else iI (an0 n i)) → MD ab' be (an0 n) (fun _ => 1) := by
    intro ab' h' i hi
    refine ⟨?_, (h i hi).2, ?_, Nat.one_ne_zero, show (1 : Nat) ≤ 20 by decide⟩
    · rw [h' i hi]
      split
      · next e => rw [e]; rfl
      · rfl
    · unfold an0
      split <;> decide
  rcases n12 n1 n2 with rfl | rfl
  · rw [wl_X7_fresh_35]
    simp only [wp_X7_at]
    refine ⟨fun hc => absurd hc (by decide), fun _ => ⟨vp_in_nI (n := 4) (N := 40) (by decide) (by decide), vp_in_nI (n := 8) (N := 40) (by decide) (by decide), vp_in_nI (n := 20) (N := 40) (by decide) (by decide), fun x hx => ?_⟩⟩
    subst hx
    rw [wl_X7_fresh_35]
    simp only [wp_X7_at]
    refine ⟨fun _ => ⟨vp_in_nI (n := 24) (N := 40) (by decide) (by decide), k _ _ (fin _ (fun i hi => ?_))⟩, fun hc => absurd (by decide) hc⟩
    have e1 : ((4 * 1 + 2 * 0 + 0 : Int32)).toNatClampNeg = 4 := by decide
    have e2 : ((4 * 2 + 2 * 0 + 0 : Int32)).toNatClampNeg = 8 := by decide
    have e3 : ((4 * 5 + 2 * 0 + 0 : Int32)).toNatClampNeg = 20 := by decide
    have e4 : ((4 * 6 + 2 * 0 + 0 : Int32)).toNatClampNeg = 24 := by decide
    rw [e1, e2, e3, e4]
    simp only [upd, (h i hi).1, an0]
    by_cases c1 : i = 24
    · rw [if_pos c1, if_pos c1]
    · rw [if_neg c1, if_neg c1]
      by_cases c2 : i = 20
      · subst c2; rfl
      · rw [if_neg c2]
        by_cases c3 : i = 8
        · subst c3; rfl
        · rw [if_neg c3]
          by_cases c4 : i = 4
          · subst c4; rfl
          · rw [if_neg c4, if_neg (by omega)]
            rfl
  · rw [wl_X7_fresh_35]
    simp only [wp_X7_at]
    refine ⟨fun hc => absurd hc (by decide), fun _ => ⟨vp_in_nI (n := 4) (N := 40) (by decide) (by decide), vp_in_nI (n := 8) (N := 40) (by decide) (by decide), vp_in_nI (n := 20) (N := 40) (by decide) (by decide), fun x hx => ?_⟩⟩
    subst hx
    rw [wl_X7_fresh_35]
    simp only [wp_X7_at]
    refine ⟨fun hc => absurd hc (by decide), fun _ => ⟨vp_in_nI (n := 7) (N := 40) (by decide) (by decide), vp_in_nI (n := 11) (N := 40) (by decide) (by decide), vp_in_nI (n := 22) (N := 40) (by decide) (by decide), fun x hx => ?_⟩⟩
    subst hx
    rw [wl_X7_fresh_35]
    simp only [wp_X7_at]
    refine ⟨fun _ => ⟨vp_in_nI (n := 24) (N := 40) (by decide) (by decide), k _ _ (fin _ (fun i hi => ?_))⟩, fun hc => absurd (by decide) hc⟩
    have e1 : ((4 * 1 + 2 * 0 + 0 : Int32)).toNatClampNeg = 4 := by decide
    have e2 : ((4 * 2 + 2 * 0 + 0 : Int32)).toNatClampNeg = 8 := by decide
    have e3 : ((4 * 5 + 2 * 0 + 0 : Int32)).toNatClampNeg = 20 := by decide
    have e4 : ((4 * 6 + 2 * 0 + 0 : Int32)).toNatClampNeg = 24 := by decide
    have e5 : ((4 * 1 + 2 * (0 + 1) + (0 + 1) : Int32)).toNatClampNeg = 7 := by decide
    have e6 : ((4 * 2 + 2 * (0 + 1) + (0 + 1) : Int32)).toNatClampNeg = 11 := by decide
    have e7 : ((4 * 5 + 2 * (0 + 1) + 0 : Int32)).toNatClampNeg = 22 := by decide
    rw [e1, e2, e3, e4, e5, e6, e7]
    simp only [upd, (h i hi).1, an0]
    by_cases c1 : i = 24
    · rw [if_pos c1, if_pos c1]
    · rw [if_neg c1, if_neg c1]
      by_cases c2 : i = 22
      · subst c2; rfl
      · rw [if_neg c2]
        by_cases c3 : i = 11
        · subst c3; rfl
        · rw [if_neg c3]
          by_cases c4 : i = 7
          · subst c4; rfl
          · rw [if_neg c4]
            by_cases c5 : i = 20
            · subst c5; rfl
            · rw [if_neg c5]
              by_cases c6 : i = 8
              · subst c6; rfl
              · rw [if_neg c6]
                by_cases c7 : i = 4
                · subst c7; rfl
                · rw [if_neg c7, if_neg (by omega)]
                  rfl
