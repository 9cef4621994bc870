/-! ===== the class's tables as values (own work) ===== -/
section
variable {G : Nat → Prop}
def emp (h : xH) (q N : Nat) : Prop := h q = some (.inl (3, N, .inr (.inr (.inr (.inr (fun _ => none))))))
def Tq (G : Nat → Prop) (h : xH) (t q r c : Nat) (v : Nat → Rat) (b : Nat) : Prop := ∃ (z : Nat → Int) (D : Nat), Tb G h t q r c z D ∧ 0 < D ∧ D < 2 ^ b ∧ ∀ x, x < r * c → (z x).natAbs < 2 ^ b ∧ v x = mkRat (z x) D
theorem Tq.rp {h : xH} {t q r c b : Nat} {v : Nat → Rat} (T : Tq G h t q r c v b) : Rp v (r * c) b := by
  obtain ⟨z, D, -, h1, h2, h3⟩ := T
  exact ⟨z, D, h1, h2, h3⟩
theorem Tq.mv {h h' : xH} {t q r c b : Nat} {v : Nat → Rat} (T : Tq G h t q r c v b) (he : Mv h h') : Tq G h' t q r c v b := by
  obtain ⟨z, D, h0, h1⟩ := T
  exact ⟨z, D, h0.mv he, h1⟩
theorem Tq.ext {h h' : xH} {t q r c b : Nat} {v : Nat → Rat} (T : Tq G h t q r c v b) (he : Ext h h') : Tq G h' t q r c v b := T.mv he.mv
theorem Tq.ob {h : xH} {t q r c b : Nat} {v : Nat → Rat} (T : Tq G h t q r c v b) : ∃ fs : List Value, h t = some (.inr (4, fs)) := by
  obtain ⟨z, D, ⟨a, b, h0, -⟩, -⟩ := T
  exact ⟨_, h0⟩
theorem Tq.congr {h : xH} {t q r c b b' : Nat} {v v' : Nat → Rat} (T : Tq G h t q r c v b) (hv : ∀ x, x < r * c → v' x = v x) (hb : b ≤ b') : Tq G h t q r c v' b' := by
  obtain ⟨z, D, h0, h1, h2, h3⟩ := T
  exact ⟨z, D, h0, h1, up_bits h2 hb, fun x hx => ⟨up_bits (h3 x hx).1 hb, by rw [hv x hx, (h3 x hx).2]⟩⟩
theorem tq_ofFraction {h0 : xH} {mc ms d : Nat} {n : Int} {post : Nat → xH → Prop} (hn : n.natAbs ≤ 20) (hd1 : 1 ≤ d) (hd : d ≤ 20) (hG : ∀ q, h0 q = none → G q) (hmc : 7 ≤ mc) (hms : 21 ≤ ms)
    (k : ∀ t h' q, Ext h0 h' → h0 t = none → Tq G h' t q 1 1 (fun _ => mkRat n d) 5 → h0 q = none → emp h' q (1 * 1) → post t h') : wp_X4_ofFraction h0 mc ms (iI n) (nI d) post :=
  st_ofFraction (by omega) (by omega) hG hmc hms (fun t h' q e n1 T n2 e2 => k t h' q e n1 ⟨_, _, T, by omega, by omega, fun x hx => ⟨by omega, rfl⟩⟩ n2 e2)
theorem tq_times {h0 : xH} {t1 q1 r c t2 q2 c2 b1 b2 u mc ms : Nat} {v1 v2 : Nat → Rat} {post : Nat → xH → Prop} (T1 : Tq G h0 t1 q1 r c v1 b1) (T2 : Tq G h0 t2 q2 c c2 v2 b2) (hc1 : 1 ≤ c) (hc : c ≤ 2) (hc2 : c2 ≤ 2) (hr : r ≤ 2) (hu : (b1 + b2) / 16 + 10 ≤ u) (hub : b1 + b2 ≤ 100000) (hG : ∀ q, h0 q = none → G q) (hmc : 29 ≤ mc) (hms : 13 * u + 13 ≤ ms)
    (k : ∀ t h' q, Ext h0 h' → h0 t = none → Tq G h' t q r c2 (mv v1 v2 c c2) (b1 + b2 + 1) → h0 q = none → emp h' q (r * c2) → post t h') : wp_X4_times h0 mc ms t1 t2 post := by
  obtain ⟨z1, D1, A1, A2, A3, A4⟩ := T1
  obtain ⟨z2, D2, B1, B2, B3, B4⟩ := T2
  refine st_times A1 B1 hc1 hc hc2 hr (fun i hi => (A4 i hi).1) (fun i hi => (B4 i hi).1) A3 B3 hu hub hG hmc hms (fun t h' q e n1 T n2 e2 => ?_)
  refine k t h' q e n1 ⟨_, _, T, Nat.mul_pos A2 B2, up_bits (mulN_bits A3 B3) (by omega), fun x hx => ⟨?_, ?_⟩⟩ n2 e2
  · exact mz_bits hc (fun i hi => (A4 i hi).1) (fun i hi => (B4 i hi).1) x hx
  · exact mv_rp A2 B2 (fun i hi => (A4 i hi).2) (fun i hi => (B4 i hi).2) hx
theorem tq_turned {h0 : xH} {t q1 r c b mc ms : Nat} {v : Nat → Rat} {post : Nat → xH → Prop} (T : Tq G h0 t q1 r c v b) (hc : c ≤ 2) (hr : r ≤ 2) (hmc : 3 ≤ mc) (hms : 13 ≤ ms)
    (k : ∀ t' h' q, Ext h0 h' → h0 t' = none → Tq G h' t' q c r (tvv v r c) b → h0 q = none → emp h' q (c * r) → post t' h') : wp_X4_turned h0 mc ms t post := by
  obtain ⟨z, D, A1, A2, A3, A4⟩ := T
  refine st_turned A1 hc hr hmc hms (fun t' h' q e n1 T n2 e2 => ?_)
  refine k t' h' q e n1 ⟨_, _, T, A2, A3, fun x hx => ?_⟩ n2 e2
  have hr0 : 0 < r := by
    rcases Nat.eq_zero_or_pos r with z | z
    · rw [z] at hx
      omega
    · exact z
  exact A4 _ (ix' (Nat.mod_lt _ hr0) (Nat.div_lt_of_lt_mul (by rw [Nat.mul_comm]; exact hx)))
theorem tq_plus {h0 : xH} {t1 q1 r c t2 q2 b1 b2 u mc ms : Nat} {v1 v2 : Nat → Rat} {post : Nat → xH → Prop} (T1 : Tq G h0 t1 q1 r c v1 b1) (T2 : Tq G h0 t2 q2 r c v2 b2) (hn : r * c ≤ 4) (hu : (b1 + b2) / 16 + 10 ≤ u) (hub : b1 + b2 ≤ 100000) (hG : ∀ q, h0 q = none → G q) (hmc : 47 ≤ mc) (hms : 19 * u + 13 ≤ ms)
    (k : ∀ t h' q, Ext h0 h' → h0 t = none → Tq G h' t q r c (fun x => v1 x + v2 x) (b1 + b2 + 1) → h0 q = none → emp h' q (r * c) → post t h') : wp_X4_plus h0 mc ms t1 t2 post := by
  obtain ⟨z1, D1, A1, A2, A3, A4⟩ := T1
  obtain ⟨z2, D2, B1, B2, B3, B4⟩ := T2
  refine st_plus A1 B1 hn (fun i hi => (A4 i hi).1) (fun i hi => (B4 i hi).1) A3 B3 hu hub hG hmc hms (fun t h' q e n1 T n2 e2 => ?_)
  have w1 : D2 / Nat.gcd D1 D2 < 2 ^ b2 := Nat.lt_of_le_of_lt (Nat.div_le_self _ _) B3
  have w2 : D1 / Nat.gcd D1 D2 < 2 ^ b1 := Nat.lt_of_le_of_lt (Nat.div_le_self _ _) A3
  have w3 : 0 < D2 / Nat.gcd D1 D2 := by
    obtain ⟨a, b, g, _, _, hb, e0, _, _, _, e4⟩ := rq_gcd A2 B2
    rw [e0, e4]
    exact hb
  refine k t h' q e n1 ⟨_, _, T, Nat.mul_pos A2 w3, up_bits (mulN_bits A3 w1) (by omega), fun x hx => ⟨?_, ?_⟩⟩ n2 e2
  · rw [pz]
    exact add_bits (c := b1 + b2) (mul_bits (A4 x hx).1 (b := b2) (by rw [Int.natAbs_natCast]; exact w1)) (mul_bits (B4 x hx).1 (b := b1) (by rw [Int.natAbs_natCast]; exact w2)) (by omega) (by omega)
  · rw [pz, rq_pz A2 B2, ← (A4 x hx).2, ← (B4 x hx).2]
theorem tq_minus {h0 : xH} {t1 q1 r c t2 q2 b1 b2 u mc ms : Nat} {v1 v2 : Nat → Rat} {post : Nat → xH → Prop} (T1 : Tq G h0 t1 q1 r c v1 b1) (T2 : Tq G h0 t2 q2 r c v2 b2) (hn : r * c ≤ 4) (hu : (b1 + b2) / 16 + 10 ≤ u) (hub : b1 + b2 ≤ 100000) (hG : ∀ q, h0 q = none → G q) (hmc : 54 ≤ mc) (hms : 19 * u + 38 ≤ ms)
    (k : ∀ t h' q, Ext h0 h' → h0 t = none → Tq G h' t q r c (fun x => v1 x - v2 x) (b1 + b2 + 1) → h0 q = none → emp h' q (r * c) → post t h') : wp_X4_minus h0 mc ms t1 t2 post := by
  obtain ⟨z1, D1, A1, A2, A3, A4⟩ := T1
  obtain ⟨z2, D2, B1, B2, B3, B4⟩ := T2
  refine st_minus A1 B1 hn (fun i hi => (A4 i hi).1) (fun i hi => (B4 i hi).1) A3 B3 hu hub hG hmc hms (fun t h' q e n1 T n2 e2 => ?_)
  have w1 : D2 / Nat.gcd D1 D2 < 2 ^ b2 := Nat.lt_of_le_of_lt (Nat.div_le_self _ _) B3
  have w2 : D1 / Nat.gcd D1 D2 < 2 ^ b1 := Nat.lt_of_le_of_lt (Nat.div_le_self _ _) A3
  have w3 : 0 < D2 / Nat.gcd D1 D2 := by
    obtain ⟨a, b, g, _, _, hb, e0, _, _, _, e4⟩ := rq_gcd A2 B2
    rw [e0, e4]
    exact hb
  refine k t h' q e n1 ⟨_, _, T, Nat.mul_pos A2 w3, up_bits (mulN_bits A3 w1) (by omega), fun x hx => ⟨?_, ?_⟩⟩ n2 e2
  · rw [pz]
    exact add_bits (c := b1 + b2) (mul_bits (A4 x hx).1 (b := b2) (by rw [Int.natAbs_natCast]; exact w1)) (mul_bits (by rw [Int.natAbs_neg]; exact (B4 x hx).1) (b := b1) (by rw [Int.natAbs_natCast]; exact w2)) (by omega) (by omega)
  · rw [pz, rq_pz A2 B2, rq_neg, ← (A4 x hx).2, ← (B4 x hx).2]
    exact Rat.sub_eq_add_neg _ _
theorem tq_over {h0 : xH} {t1 q1 r c t2 q2 b1 b2 u mc ms : Nat} {v1 v2 : Nat → Rat} {post : Nat → xH → Prop} (T1 : Tq G h0 t1 q1 r c v1 b1) (T2 : Tq G h0 t2 q2 1 1 v2 b2) (hn : r * c ≤ 4) (hz : 0 < v2 0) (hu : (b1 + b2) / 16 + 10 ≤ u) (hub : b1 + b2 ≤ 100000) (hG : ∀ q, h0 q = none → G q) (hmc : 31 ≤ mc) (hms : 11 * u + 13 ≤ ms)
    (k : ∀ t h' q, Ext h0 h' → h0 t = none → Tq G h' t q r c (fun x => v1 x / v2 0) (b1 + b2) → h0 q = none → emp h' q (r * c) → post t h') : wp_X4_over h0 mc ms t1 t2 post := by
  obtain ⟨z1, D1, A1, A2, A3, A4⟩ := T1
  obtain ⟨z2, D2, B1, B2, B3, B4⟩ := T2
  have e0 := (B4 0 (by omega)).2
  have hz2 : 0 < z2 0 := by
    rw [e0] at hz
    refine rq_pos B2 (Rat.le_of_lt hz) (fun z => ?_)
    rw [z, Rat.zero_mkRat] at hz
    exact absurd hz (by decide)
  refine st_over A1 B1 hn (fun i hi => (A4 i hi).1) (B4 0 (by omega)).1 hz2 A3 B3 hu hub hG hmc hms (fun t h' q e n1 T n2 e2 => ?_)
  have w1 : D2 / Nat.gcd D1 D2 < 2 ^ b2 := Nat.lt_of_le_of_lt (Nat.div_le_self _ _) B3
  have w2 : D1 / Nat.gcd D1 D2 < 2 ^ b1 := Nat.lt_of_le_of_lt (Nat.div_le_self _ _) A3
  have w3 : 0 < D1 / Nat.gcd D1 D2 := by
    obtain ⟨a, b, g, _, ha, hb, e0, _, _, e3, e4⟩ := rq_gcd A2 B2
    rw [e0, e3]
    exact ha
  refine k t h' q e n1 ⟨_, _, T, Nat.mul_pos w3 (by omega), mulN_bits w2 (B4 0 (by omega)).1, fun x hx => ⟨?_, ?_⟩⟩ n2 e2
  · exact mul_bits (A4 x hx).1 (by rw [Int.natAbs_natCast]; exact w1)
  · rw [rq_over A2 B2 hz2, ← (A4 x hx).2, ← e0]
theorem tq_short {h0 : xH} {t1 q1 r c b b' u mc ms : Nat} {v : Nat → Rat} {post : Nat → xH → Prop} (T1 : Tq G h0 t1 q1 r c v b) (hR : Rp v (r * c) b') (hn : r * c ≤ 4) (hu : b / 16 + 10 ≤ u) (hub : b ≤ 100000) (hG : ∀ q, h0 q = none → G q) (hmc : 57 ≤ mc) (hms : 18 * u + 13 ≤ ms)
    (k : ∀ t h' q, Ext h0 h' → h0 t = none → Tq G h' t q r c v b' → h0 q = none → emp h' q (r * c) → post t h') : wp_X4_shortened h0 mc ms t1 post := by
  obtain ⟨z, D, A1, A2, A3, A4⟩ := T1
  obtain ⟨w, E, R1, R2, R3⟩ := hR
  refine st_shortened A1 hn (fun i hi => (A4 i hi).1) A2 A3 hu hub hG hmc hms (fun t h' q e n1 T n2 e2 => ?_)
  obtain ⟨m1, m2⟩ := gf_min (z := z) (w := w) (n := r * c) A2 R1 (fun i hi => by rw [← (A4 i hi).2, (R3 i hi).2])
  obtain ⟨d1, d2⟩ := gf_dvd (D := D) (z := z) (r * c)
  obtain ⟨g1, g2⟩ := gf_le (z := z) A2 (r * c)
  refine k t h' q e n1 ⟨_, _, T, Nat.div_pos g2 g1, Nat.lt_of_le_of_lt m1 R2, fun x hx => ⟨Nat.lt_of_le_of_lt (m2 x hx) (R3 x hx).1, ?_⟩⟩ n2 e2
  rw [rq_short g1 d1 A2 (d2 x hx), (A4 x hx).2]
def tbits (k : Nat) : Nat := if k = 1 ∨ k = 2 ∨ k = 4 then 18 else if k = 6 then 5 else 9
theorem tq_table {κ : Nat → Option Nat} {h0 : xH} {mo n k mc ms : Nat} {an : Nat → Int} {ad : Nat → Nat} {post : Nat → xH → Prop} (M : Mo κ h0 mo n an ad) (hn1 : 1 ≤ n) (hn2 : n ≤ 2) (hk : k < 7) (hb : ∀ x, x < 40 → (an x).natAbs ≤ 20 ∧ 1 ≤ ad x ∧ ad x ≤ 20) (hG : ∀ q, h0 q = none → G q) (hmc : 13 ≤ mc) (hms : 48 ≤ ms)
    (kk : ∀ t h' q, Ext h0 h' → h0 t = none → Tq G h' t q (rk n k) (ck n k) (pv an ad (ck n k) k) (tbits k) → h0 q = none → emp h' q (rk n k * ck n k) → post t h') : wp_X1_table h0 mc ms mo (nI k) post := by
  refine sm_table M hn1 hn2 hk hb hG hmc hms (fun t h' q D e n1 d1 d2 d3 T n2 e2 => ?_)
  have hN : 20 ^ (rk n k * ck n k) < 2 ^ tbits k ∧ 1 ≤ rk n k * ck n k := by
    have : k = 0 ∨ k = 1 ∨ k = 2 ∨ k = 3 ∨ k = 4 ∨ k = 5 ∨ k = 6 := by omega
    rcases n12 hn1 hn2 with rfl | rfl <;> rcases this with rfl | rfl | rfl | rfl | rfl | rfl | rfl <;> decide
  refine kk t h' q e n1 ⟨_, _, T, d1, by omega, fun x hx => ?_⟩ n2 e2
  have hj := jx_lt (k := k) (rk_le (k := k) hn1 hn2).2 (ck_le (k := k) hn1 hn2).2 hx
  obtain ⟨a1, a2, a3⟩ := hb (jx (ck n k) k x) (by omega)
  obtain ⟨c1, c2⟩ := d3 x hx
  refine ⟨?_, ?_⟩
  · rw [qz, Int.natAbs_mul, Int.natAbs_natCast]
    have m := Nat.mul_le_mul a1 c2
    have e20 : 20 * 20 ^ (rk n k * ck n k - 1) = 20 ^ (rk n k * ck n k) := by
      obtain ⟨y, hy⟩ : ∃ y, rk n k * ck n k = y + 1 := ⟨rk n k * ck n k - 1, by omega⟩
      rw [hy, Nat.add_sub_cancel, Nat.pow_succ, Nat.mul_comm]
    omega
  · rw [qz, rq_qz c1 d1]
    rfl
end
