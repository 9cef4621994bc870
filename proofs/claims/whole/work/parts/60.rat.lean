/-! ===== fractions as values of tables: pure lemmas over Rat (own work) ===== -/
theorem rq_sq (a : Rat) : 0 ≤ a * a := by
  rcases Rat.nonneg_total a with h | h
  · exact Rat.mul_nonneg h h
  · have := Rat.mul_nonneg h h
    grind
theorem rq_nn {a b : Rat} (h : 0 < a) (hm : 0 ≤ a * b) : 0 ≤ b := by
  refine Rat.le_of_mul_le_mul_left (c := a) ?_ h
  rw [Rat.mul_zero]
  exact hm
theorem rq_nz {d : Nat} (h : 0 < d) : ((d : Nat) : Rat) ≠ 0 := by
  intro hc
  have : (d : Rat) = ((0 : Nat) : Rat) := hc
  have := Rat.natCast_inj.mp this
  omega
theorem rq_mul {a b : Int} {D E : Nat} : mkRat (a * b) (D * E) = mkRat a D * mkRat b E := (Rat.mkRat_mul_mkRat _ _ _ _).symm
theorem rq_sum {a b : Int} {D : Nat} (h : 0 < D) : mkRat (a + b) D = mkRat a D + mkRat b D := by
  have hd := rq_nz h
  rw [Rat.mkRat_eq_div, Rat.mkRat_eq_div, Rat.mkRat_eq_div, Rat.intCast_add]
  grind
theorem rq_neg {a : Int} {D : Nat} : mkRat (-a) D = -mkRat a D := by
  rw [Rat.neg_mkRat]
theorem rq_gcd {D E : Nat} (hD : 0 < D) (hE : 0 < E) : ∃ a b g : Nat, 0 < g ∧ 0 < a ∧ 0 < b ∧ Nat.gcd D E = g ∧ D = g * a ∧ E = g * b ∧ D / g = a ∧ E / g = b := by
  have hg : 0 < Nat.gcd D E := Nat.gcd_pos_of_pos_left _ hD
  obtain ⟨a, ha⟩ := Nat.gcd_dvd_left D E
  obtain ⟨b, hb⟩ := Nat.gcd_dvd_right D E
  refine ⟨a, b, Nat.gcd D E, hg, ?_, ?_, rfl, ha, hb, ?_, ?_⟩
  · rcases Nat.eq_zero_or_pos a with z | z
    · rw [z] at ha
      omega
    · exact z
  · rcases Nat.eq_zero_or_pos b with z | z
    · rw [z] at hb
      omega
    · exact z
  · exact Nat.div_eq_of_eq_mul_right hg ha
  · exact Nat.div_eq_of_eq_mul_right hg hb
theorem rq_pz {z1 z2 : Int} {D1 D2 : Nat} (h1 : 0 < D1) (h2 : 0 < D2) : mkRat (z1 * ((D2 / Nat.gcd D1 D2 : Nat) : Int) + z2 * ((D1 / Nat.gcd D1 D2 : Nat) : Int)) (D1 * (D2 / Nat.gcd D1 D2)) = mkRat z1 D1 + mkRat z2 D2 := by
  obtain ⟨a, b, g, hg, ha, hb, e0, e1, e2, e3, e4⟩ := rq_gcd h1 h2
  rw [e0, e3, e4, e1, e2]
  simp only [Rat.mkRat_eq_div, Rat.intCast_add, Rat.intCast_mul, Rat.natCast_mul, Rat.intCast_natCast]
  have := rq_nz hg
  have := rq_nz ha
  have := rq_nz hb
  grind
theorem rq_over {z : Int} {Z : Int} {D1 D2 : Nat} (h1 : 0 < D1) (h2 : 0 < D2) (hz : 0 < Z) : mkRat (z * ((D2 / Nat.gcd D1 D2 : Nat) : Int)) (D1 / Nat.gcd D1 D2 * Z.natAbs) = mkRat z D1 / mkRat Z D2 := by
  obtain ⟨a, b, g, hg, ha, hb, e0, e1, e2, e3, e4⟩ := rq_gcd h1 h2
  rw [e0, e3, e4, e1, e2]
  obtain ⟨Y, rfl⟩ : ∃ Y : Nat, Z = (Y : Int) := ⟨Z.natAbs, by omega⟩
  simp only [Rat.mkRat_eq_div, Rat.intCast_add, Rat.intCast_mul, Rat.natCast_mul, Rat.intCast_natCast, Int.natAbs_natCast]
  have := rq_nz hg
  have := rq_nz ha
  have := rq_nz hb
  have hY : 0 < Y := by omega
  have := rq_nz hY
  grind
theorem rq_short {z : Int} {D g : Nat} (hg : 0 < g) (hD : g ∣ D) (hD0 : 0 < D) (hz : g ∣ z.natAbs) : mkRat (z.tdiv (g : Nat)) (D / g) = mkRat z D := by
  obtain ⟨a, rfl⟩ := hD
  obtain ⟨b, hb⟩ : (g : Int) ∣ z := Int.ofNat_dvd_left.mpr hz
  subst hb
  rw [Nat.mul_div_cancel_left _ hg, Int.mul_tdiv_cancel_left _ (by omega)]
  have ha : 0 < a := Nat.pos_of_mul_pos_left hD0
  rw [Rat.mkRat_eq_iff (by omega) (by omega)]
  rw [Int.natCast_mul]
  grind
theorem gf_dvd {D : Nat} {z : Nat → Int} : ∀ n, gf D z n ∣ D ∧ ∀ i, i < n → gf D z n ∣ (z i).natAbs := by
  intro n
  induction n with
  | zero => exact ⟨Nat.dvd_refl _, fun i hi => absurd hi (by omega)⟩
  | succ n ih =>
    rw [gf]
    refine ⟨Nat.dvd_trans (Nat.gcd_dvd_left _ _) ih.1, fun i hi => ?_⟩
    by_cases h : i = n
    · subst h
      exact Nat.gcd_dvd_right _ _
    · exact Nat.dvd_trans (Nat.gcd_dvd_left _ _) (ih.2 i (by omega))
theorem gf_mul {D E : Nat} {z : Nat → Int} : ∀ n, (∀ i, i < n → D ∣ (z i).natAbs * E) → D ∣ gf D z n * E := by
  intro n
  induction n with
  | zero => exact fun _ => Nat.dvd_mul_right _ _
  | succ n ih =>
    intro h
    rw [gf, ← Nat.gcd_mul_right]
    exact Nat.dvd_gcd (ih (fun i hi => h i (by omega))) (h n (by omega))
theorem gf_min {D E n : Nat} {z w : Nat → Int} (hD : 0 < D) (hE : 0 < E) (h : ∀ i, i < n → mkRat (z i) D = mkRat (w i) E) : D / gf D z n ≤ E ∧ ∀ i, i < n → ((z i).tdiv (gf D z n : Nat)).natAbs ≤ (w i).natAbs := by
  obtain ⟨d1, d2⟩ := gf_dvd (D := D) (z := z) n
  have hg : 0 < gf D z n := Nat.pos_of_dvd_of_pos d1 hD
  have he : ∀ i, i < n → z i * (E : Int) = w i * (D : Int) := fun i hi => (Rat.mkRat_eq_iff (by omega) (by omega)).mp (h i hi)
  have hm : D ∣ gf D z n * E := gf_mul n (fun i hi => by
    have := congrArg Int.natAbs (he i hi)
    rw [Int.natAbs_mul, Int.natAbs_mul, Int.natAbs_natCast, Int.natAbs_natCast] at this
    rw [this]
    exact Nat.dvd_mul_left _ _)
  obtain ⟨a, ha⟩ := d1
  have e1 : D / gf D z n = a := Nat.div_eq_of_eq_mul_right hg ha
  have hle : a ≤ E := by
    refine Nat.le_of_dvd hE ?_
    obtain ⟨c, hc⟩ := hm
    refine ⟨c, Nat.eq_of_mul_eq_mul_left hg ?_⟩
    rw [hc]
    conv => lhs; rw [ha]
    rw [Nat.mul_assoc]
  refine ⟨by rw [e1]; exact hle, fun i hi => ?_⟩
  obtain ⟨b, hb⟩ : ((gf D z n : Nat) : Int) ∣ z i := Int.ofNat_dvd_left.mpr (d2 i hi)
  have e2 : (z i).tdiv (gf D z n : Nat) = b := by
    conv => lhs; rw [hb]
    rw [Int.mul_tdiv_cancel_left _ (by omega)]
  rw [e2]
  have e3 := congrArg Int.natAbs (he i hi)
  have e4 := congrArg Int.natAbs hb
  rw [Int.natAbs_mul, Int.natAbs_natCast] at e4
  rw [Int.natAbs_mul, Int.natAbs_mul, Int.natAbs_natCast, Int.natAbs_natCast, e4] at e3
  have e5 : b.natAbs * E = (w i).natAbs * a := by
    refine Nat.eq_of_mul_eq_mul_left hg ?_
    rw [← Nat.mul_assoc, e3]
    conv => lhs; rw [ha]
    rw [Nat.mul_left_comm]
  have e6 : b.natAbs * E ≤ (w i).natAbs * E := by
    rw [e5]
    exact Nat.mul_le_mul_left _ hle
  exact Nat.le_of_mul_le_mul_right e6 hE
theorem rq_qz {a : Int} {d D : Nat} (h : d ∣ D) (hD : 0 < D) : mkRat (a * ((D / d : Nat) : Int)) D = mkRat a d := by
  obtain ⟨c, rfl⟩ := h
  have hd : 0 < d := Nat.pos_of_mul_pos_right hD
  have hc : 0 < c := Nat.pos_of_mul_pos_left hD
  rw [Nat.mul_div_cancel_left _ hd, Rat.mkRat_eq_iff (by omega) (by omega), Int.natCast_mul]
  grind
/-! covariances -/
def psd2 (a b c : Rat) : Prop := 0 ≤ a ∧ 0 ≤ c ∧ 0 ≤ a * c - b * b
theorem psd2.form {a b c : Rat} (h : psd2 a b c) (x y : Rat) : 0 ≤ x * x * a + 2 * x * y * b + y * y * c := by
  obtain ⟨h1, h2, h3⟩ := h
  by_cases ha : 0 < a
  · refine rq_nn ha ?_
    have e1 := rq_sq (x * a + y * b)
    have e2 := Rat.mul_nonneg (rq_sq y) h3
    grind
  · have ha0 : a = 0 := by grind
    subst ha0
    have hb : b = 0 := by
      have e1 := rq_sq b
      rw [Rat.zero_mul] at h3
      have e2 : b * b = 0 := by grind
      rcases Rat.mul_eq_zero.mp e2 with e | e <;> exact e
    subst hb
    have e2 := Rat.mul_nonneg (rq_sq y) h2
    rw [Rat.mul_zero, Rat.mul_zero, Rat.add_zero, Rat.zero_add]
    exact e2
theorem psd2.of {a b c : Rat} (h : ∀ x y : Rat, 0 ≤ x * x * a + 2 * x * y * b + y * y * c) : psd2 a b c := by
  have h1 : 0 ≤ a := by have := h 1 0; grind
  have h2 : 0 ≤ c := by have := h 0 1; grind
  refine ⟨h1, h2, ?_⟩
  by_cases ha : 0 < a
  · refine rq_nn ha ?_
    have := h b (-a)
    grind
  · have ha0 : a = 0 := by grind
    by_cases hb : b = 0
    · subst hb
      subst ha0
      grind
    · have := h (-(c + 1) / (2 * b)) 1
      rw [ha0] at this
      have e : 2 * (-(c + 1) / (2 * b)) * 1 * b = -(c + 1) := by grind
      rw [e] at this
      grind
theorem psd2.predict {a b c f g k l q r s : Rat} (h : psd2 a b c) (hq : psd2 q r s) :
    psd2 (f * f * a + 2 * f * g * b + g * g * c + q) (f * k * a + (f * l + g * k) * b + g * l * c + r) (k * k * a + 2 * k * l * b + l * l * c + s) := by
  refine psd2.of (fun x y => ?_)
  have e1 := h.form (x * f + y * k) (x * g + y * l)
  have e2 := hq.form x y
  have e3 := Rat.add_nonneg e1 e2
  have : x * x * (f * f * a + 2 * f * g * b + g * g * c + q) + 2 * x * y * (f * k * a + (f * l + g * k) * b + g * l * c + r) + y * y * (k * k * a + 2 * k * l * b + l * l * c + s) = (x * f + y * k) * (x * f + y * k) * a + 2 * (x * f + y * k) * (x * g + y * l) * b + (x * g + y * l) * (x * g + y * l) * c + (x * x * q + 2 * x * y * r + y * y * s) := by grind
  rw [this]
  exact e3
theorem psd2.variance {a b c u v r : Rat} (h : psd2 a b c) (hr : 0 ≤ r) : 0 ≤ u * u * a + 2 * u * v * b + v * v * c + r := Rat.add_nonneg (h.form u v) hr
theorem psd2.measure {a b c u v r s p q : Rat} (h : psd2 a b c) (hr : 0 ≤ r) (ep : p = a * u + b * v) (eq : q = b * u + c * v) (es : s = u * u * a + 2 * u * v * b + v * v * c + r) (hs : s ≠ 0) : psd2 (a - p / s * p) (b - p / s * q) (c - q / s * q) := by
  have hs0 : 0 < s := by
    have := psd2.variance (u := u) (v := v) h hr
    grind
  refine psd2.of (fun x y => rq_nn hs0 ?_)
  have e1 := h.form x y
  have e2 := Rat.mul_nonneg h.2.2 (rq_sq (x * v - y * u))
  have e3 := Rat.mul_nonneg hr e1
  have e4 := Rat.add_nonneg e2 e3
  have i : s * s⁻¹ = 1 := Rat.mul_inv_cancel _ hs
  have : s * (x * x * (a - p / s * p) + 2 * x * y * (b - p / s * q) + y * y * (c - q / s * q)) = (a * c - b * b) * ((x * v - y * u) * (x * v - y * u)) + r * (x * x * a + 2 * x * y * b + y * y * c) := by
    have h1 : s * (x * x * (a - p / s * p) + 2 * x * y * (b - p / s * q) + y * y * (c - q / s * q)) = s * (x * x * a + 2 * x * y * b + y * y * c) - (x * p + y * q) * (x * p + y * q) := by grind
    rw [h1, ep, eq, es]
    grind
  rw [this]
  exact e4
theorem psd1.measure {a u r s p : Rat} (h : 0 ≤ a) (hr : 0 ≤ r) (ep : p = a * u) (es : s = u * u * a + r) (hs : s ≠ 0) : 0 ≤ a - p / s * p := by
  have hs0 : 0 < s := by
    have := Rat.add_nonneg (Rat.mul_nonneg (rq_sq u) h) hr
    grind
  refine rq_nn hs0 ?_
  have := Rat.mul_nonneg h hr
  have e : s * (a - p / s * p) = a * r := by
    have h1 : s * (a - p / s * p) = s * a - p * p := by grind
    rw [h1, ep, es]
    grind
  rw [e]
  exact this
theorem rq_fit {a b c : Int} {da db dc : Nat} (h1 : 0 < da) (h2 : 0 < db) (h3 : 0 < dc) (ha : 0 ≤ a) (hc : 0 ≤ c) (h : b * b * (da : Int) * (dc : Int) ≤ a * c * (db : Int) * (db : Int)) : psd2 (mkRat a da) (mkRat b db) (mkRat c dc) := by
  have nn : ∀ {z : Int} {d : Nat}, 0 < d → 0 ≤ z → 0 ≤ mkRat z d := by
    intro z d hd hz
    rw [← Rat.divInt_ofNat]
    exact Rat.divInt_nonneg hz (by omega)
  refine ⟨nn h1 ha, nn h3 hc, ?_⟩
  have e : mkRat a da * mkRat c dc - mkRat b db * mkRat b db = mkRat (a * c * (db : Int) * (db : Int) - b * b * (da : Int) * (dc : Int)) (da * dc * (db * db)) := by
    simp only [Rat.mkRat_eq_div, Rat.intCast_sub, Rat.intCast_mul, Rat.natCast_mul, Rat.intCast_natCast]
    have := rq_nz h1
    have := rq_nz h2
    have := rq_nz h3
    grind
  rw [e]
  exact nn (Nat.mul_pos (Nat.mul_pos h1 h3) (Nat.mul_pos h2 h2)) (by omega)
theorem rq_nn0 {z : Int} {d : Nat} (hz : 0 ≤ z) : 0 ≤ mkRat z d := by
  rw [← Rat.divInt_ofNat]
  exact Rat.divInt_nonneg hz (by omega)
theorem rq_pos {z : Int} {d : Nat} (hd : 0 < d) (h : 0 ≤ mkRat z d) (hz : z ≠ 0) : 0 < z := by
  rw [← Rat.divInt_ofNat] at h
  have := (Rat.divInt_nonneg_iff_of_pos_right (by omega)).mp h
  omega
theorem rq_z0 {z : Int} {d : Nat} (hd : 0 < d) : mkRat z d = 0 ↔ z = 0 := by
  rw [Rat.mkRat_eq_zero (by omega)]
