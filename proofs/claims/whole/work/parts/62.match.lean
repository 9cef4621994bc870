/-! ===== the reference's values and the class's values are the same (own work) ===== -/
def pv (an : Nat → Int) (ad : Nat → Nat) (c k x : Nat) : Rat := md an ad k (x / c) (x % c)
def psdn (n : Nat) (P : Nat → Rat) : Prop := (n = 1 → 0 ≤ P 0) ∧ (n = 2 → P 1 = P 2 ∧ psd2 (P 0) (P 1) (P 3))
theorem n12 {n : Nat} (h1 : 1 ≤ n) (h2 : n ≤ 2) : n = 1 ∨ n = 2 := by omega
section
variable {F X P Q U H R K : Nat → Rat} {an : Nat → Int} {ad : Nat → Nat} {y : Rat}
theorem pmv1 : pmv F X U 1 0 = U 0 + F 0 * X 0 := by
  show (0 + F 0 * X 0) + U 0 = _
  grind
theorem pmv20 : pmv F X U 2 0 = (U 0 + F 0 * X 0) + F 1 * X 1 := by
  show (0 + F 0 * X 0 + F 1 * X 1) + U 0 = _
  grind
theorem pmv21 : pmv F X U 2 1 = (U 1 + F 2 * X 0) + F 3 * X 1 := by
  show (0 + F 2 * X 0 + F 3 * X 1) + U 1 = _
  grind
theorem pcv1 : pcv F P Q 1 0 = Q 0 + (mkRat 0 1 + F 0 * P 0) * F 0 := by
  show (0 + (0 + F 0 * P 0) * F 0) + Q 0 = _
  rw [Rat.zero_mkRat]
  grind
theorem pcv2 {i j : Nat} (hi : i < 2) (hj : j < 2) : pcv F P Q 2 (2 * i + j) = (Q (2 * i + j) + (mkRat 0 1 + F (2 * i) * P 0 + F (2 * i + 1) * P 2) * F (2 * j)) + (mkRat 0 1 + F (2 * i) * P 1 + F (2 * i + 1) * P 3) * F (2 * j + 1) := by
  rw [Rat.zero_mkRat]
  obtain rfl | rfl : i = 0 ∨ i = 1 := by omega
  · obtain rfl | rfl : j = 0 ∨ j = 1 := by omega
    · show (0 + (0 + F 0 * P 0 + F 1 * P 2) * F 0 + (0 + F 0 * P 1 + F 1 * P 3) * F 1) + Q 0 = (Q 0 + (0 + F 0 * P 0 + F 1 * P 2) * F 0) + (0 + F 0 * P 1 + F 1 * P 3) * F 1
      grind
    · show (0 + (0 + F 0 * P 0 + F 1 * P 2) * F 2 + (0 + F 0 * P 1 + F 1 * P 3) * F 3) + Q 1 = (Q 1 + (0 + F 0 * P 0 + F 1 * P 2) * F 2) + (0 + F 0 * P 1 + F 1 * P 3) * F 3
      grind
  · obtain rfl | rfl : j = 0 ∨ j = 1 := by omega
    · show (0 + (0 + F 2 * P 0 + F 3 * P 2) * F 0 + (0 + F 2 * P 1 + F 3 * P 3) * F 1) + Q 2 = (Q 2 + (0 + F 2 * P 0 + F 3 * P 2) * F 0) + (0 + F 2 * P 1 + F 3 * P 3) * F 1
      grind
    · show (0 + (0 + F 2 * P 0 + F 3 * P 2) * F 2 + (0 + F 2 * P 1 + F 3 * P 3) * F 3) + Q 3 = (Q 3 + (0 + F 2 * P 0 + F 3 * P 2) * F 2) + (0 + F 2 * P 1 + F 3 * P 3) * F 3
      grind
theorem hpv1 : hpv H P 1 0 = mkRat 0 1 + P 0 * H 0 := by
  show 0 + H 0 * P 0 = _
  rw [Rat.zero_mkRat]
  grind
theorem hpv20 (hs : P 1 = P 2) : hpv H P 2 0 = mkRat 0 1 + P 0 * H 0 + P 1 * H 1 := by
  show 0 + H 0 * P 0 + H 1 * P 2 = _
  rw [Rat.zero_mkRat, hs]
  grind
theorem hpv21 (hs : P 1 = P 2) : hpv H P 2 1 = mkRat 0 1 + P 2 * H 0 + P 3 * H 1 := by
  show 0 + H 0 * P 1 + H 1 * P 3 = _
  rw [Rat.zero_mkRat, hs]
  grind
theorem sv1 : sv H P R 1 = R 0 + H 0 * hpv H P 1 0 := by
  show 0 + hpv H P 1 0 * H 0 + R 0 = _
  grind
theorem sv2 : sv H P R 2 = (R 0 + H 0 * hpv H P 2 0) + H 1 * hpv H P 2 1 := by
  show 0 + hpv H P 2 0 * H 0 + hpv H P 2 1 * H 1 + R 0 = _
  grind
theorem zv1 : zv H X 1 y 0 = y - H 0 * X 0 := by
  show y - (0 + H 0 * X 0) = _
  grind
theorem zv2 : zv H X 2 y 0 = (y - H 0 * X 0) - H 1 * X 1 := by
  show y - (0 + H 0 * X 0 + H 1 * X 1) = _
  grind
theorem kvn {n i : Nat} (hi : i < n) : kv H P R n i = hpv H P n i / sv H P R n := by
  rw [kv, tvv, Nat.mod_one, Nat.div_one, Nat.zero_mul, Nat.zero_add]
theorem mmvn {n i : Nat} (hi : i < n) : mmv H X P R n y i = X i + hpv H P n i / sv H P R n * zv H X n y 0 := by
  rw [mmv, mv, sr, sr, Rat.zero_add, Nat.div_one, Nat.mul_one, Nat.add_zero, Nat.mod_one, Nat.zero_mul, Nat.zero_add, kvn hi]
theorem mcvn {n i j : Nat} (hi : i < n) (hj : j < n) : mcv H P R n (i * n + j) = P (i * n + j) - hpv H P n i / sv H P R n * hpv H P n j := by
  have h1 : (i * n + j) / n = i := by
    rw [Nat.mul_comm, Nat.mul_add_div (by omega), Nat.div_eq_of_lt hj, Nat.add_zero]
  have h2 : (i * n + j) % n = j := by
    rw [Nat.mul_comm, Nat.mul_add_mod, Nat.mod_eq_of_lt hj]
  rw [mcv, mv, sr, sr, Rat.zero_add, h1, h2, Nat.mul_one, Nat.add_zero, Nat.zero_mul, Nat.zero_add, kvn hi]
/-! covariances stay fit -/
theorem psd_predict {n : Nat} (h1 : 1 ≤ n) (h2 : n ≤ 2) (hP : psdn n P) (hQ : psdn n Q) : psdn n (pcv F P Q n) := by
  rcases n12 h1 h2 with rfl | rfl
  · refine ⟨fun _ => ?_, fun hc => absurd hc (by decide)⟩
    rw [pcv1, Rat.zero_mkRat]
    have := Rat.add_nonneg (hQ.1 rfl) (Rat.mul_nonneg (rq_sq (F 0)) (hP.1 rfl))
    have e : Q 0 + (0 + F 0 * P 0) * F 0 = Q 0 + F 0 * F 0 * P 0 := by grind
    rw [e]
    exact this
  · refine ⟨fun hc => absurd hc (by decide), fun _ => ?_⟩
    obtain ⟨p1, p2⟩ := hP.2 rfl
    obtain ⟨q1, q2⟩ := hQ.2 rfl
    have e0 := pcv2 (F := F) (P := P) (Q := Q) (i := 0) (j := 0) (by decide) (by decide)
    have e1 := pcv2 (F := F) (P := P) (Q := Q) (i := 0) (j := 1) (by decide) (by decide)
    have e2 := pcv2 (F := F) (P := P) (Q := Q) (i := 1) (j := 0) (by decide) (by decide)
    have e3 := pcv2 (F := F) (P := P) (Q := Q) (i := 1) (j := 1) (by decide) (by decide)
    simp only [Nat.mul_zero, Nat.mul_one, Nat.zero_add, Nat.add_zero, Nat.reduceAdd, Rat.zero_mkRat, ← p1, ← q1] at e0 e1 e2 e3
    refine ⟨?_, ?_⟩
    · rw [e1, e2]
      grind
    · have := psd2.predict (f := F 0) (g := F 1) (k := F 2) (l := F 3) p2 q2
      have f0 : pcv F P Q 2 0 = F 0 * F 0 * P 0 + 2 * F 0 * F 1 * P 1 + F 1 * F 1 * P 3 + Q 0 := by rw [e0]; grind
      have f1 : pcv F P Q 2 1 = F 0 * F 2 * P 0 + (F 0 * F 3 + F 1 * F 2) * P 1 + F 1 * F 3 * P 3 + Q 1 := by rw [e1]; grind
      have f3 : pcv F P Q 2 3 = F 2 * F 2 * P 0 + 2 * F 2 * F 3 * P 1 + F 3 * F 3 * P 3 + Q 3 := by rw [e3]; grind
      rw [f0, f1, f3]
      exact this
theorem sv1' : sv H P R 1 = H 0 * H 0 * P 0 + R 0 := by
  rw [sv1, hpv1, Rat.zero_mkRat]
  grind
theorem sv2' (hs : P 1 = P 2) : sv H P R 2 = H 0 * H 0 * P 0 + 2 * H 0 * H 1 * P 1 + H 1 * H 1 * P 3 + R 0 := by
  rw [sv2, hpv20 hs, hpv21 hs, Rat.zero_mkRat, ← hs]
  grind
theorem sv_nonneg {n : Nat} (h1 : 1 ≤ n) (h2 : n ≤ 2) (hP : psdn n P) (hR : 0 ≤ R 0) : 0 ≤ sv H P R n := by
  rcases n12 h1 h2 with rfl | rfl
  · rw [sv1']
    exact Rat.add_nonneg (Rat.mul_nonneg (rq_sq (H 0)) (hP.1 rfl)) hR
  · obtain ⟨p1, p2⟩ := hP.2 rfl
    rw [sv2' p1]
    exact psd2.variance p2 hR
theorem psd_measure {n : Nat} (h1 : 1 ≤ n) (h2 : n ≤ 2) (hP : psdn n P) (hR : 0 ≤ R 0) (hs : sv H P R n ≠ 0) : psdn n (mcv H P R n) := by
  rcases n12 h1 h2 with rfl | rfl
  · refine ⟨fun _ => ?_, fun hc => absurd hc (by decide)⟩
    rw [show (0 : Nat) = 0 * 1 + 0 from rfl, mcvn (by decide) (by decide)]
    exact psd1.measure (u := H 0) (hP.1 rfl) hR (by rw [hpv1, Rat.zero_mkRat, Rat.zero_add]) sv1' hs
  · refine ⟨fun hc => absurd hc (by decide), fun _ => ?_⟩
    obtain ⟨p1, p2⟩ := hP.2 rfl
    have e0 := mcvn (H := H) (P := P) (R := R) (n := 2) (i := 0) (j := 0) (by decide) (by decide)
    have e1 := mcvn (H := H) (P := P) (R := R) (n := 2) (i := 0) (j := 1) (by decide) (by decide)
    have e2 := mcvn (H := H) (P := P) (R := R) (n := 2) (i := 1) (j := 0) (by decide) (by decide)
    have e3 := mcvn (H := H) (P := P) (R := R) (n := 2) (i := 1) (j := 1) (by decide) (by decide)
    simp only [Nat.zero_mul, Nat.one_mul, Nat.zero_add, Nat.add_zero, Nat.reduceAdd] at e0 e1 e2 e3
    refine ⟨?_, ?_⟩
    · rw [e1, e2, p1]
      grind
    · rw [e0, e1, e3]
      exact psd2.measure (u := H 0) (v := H 1) p2 hR (by rw [hpv20 p1, Rat.zero_mkRat, Rat.zero_add]) (by rw [hpv21 p1, Rat.zero_mkRat, Rat.zero_add, p1]) (sv2' p1) hs
end
theorem psd_fit {an : Nat → Int} {ad : Nat → Nat} {n k : Nat} (h1 : 1 ≤ n) (h2 : n ≤ 2) (h : fitP n k an ad) (hd : ∀ x, x < 4 → 1 ≤ ad (4 * k + x)) (s1 : an (4 * k + 1) = an (4 * k + 2)) (s2 : ad (4 * k + 1) = ad (4 * k + 2)) : psdn n (pv an ad n k) := by
  rcases n12 h1 h2 with rfl | rfl
  · refine ⟨fun _ => ?_, fun hc => absurd hc (by decide)⟩
    exact rq_nn0 h.1
  · refine ⟨fun hc => absurd hc (by decide), fun _ => ?_⟩
    obtain ⟨a1, a2⟩ := h
    obtain ⟨a2, a3⟩ := a2 rfl
    refine ⟨?_, ?_⟩
    · show mkRat (an (4 * k + 1)) (ad (4 * k + 1)) = mkRat (an (4 * k + 2)) (ad (4 * k + 2))
      rw [s1, s2]
    · exact rq_fit (a := an (4 * k)) (b := an (4 * k + 1)) (c := an (4 * k + 3)) (da := ad (4 * k)) (db := ad (4 * k + 1)) (dc := ad (4 * k + 3)) (hd 0 (by decide)) (hd 1 (by decide)) (hd 3 (by decide)) a1 a2 a3
