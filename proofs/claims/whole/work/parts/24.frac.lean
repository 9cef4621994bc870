/-! ===== greatest common divisor, lowest terms, fractions of the reference ===== -/
theorem sl_common_14 {post : (Nat → Int32) → (Nat → Int32) → (Nat → Int32) → Prop} {K : (Nat → Int32) → (Nat → Int32) → (Nat → Int32) → Prop} {v0 : Nat → Nat} {g : Nat}
    (k : ∀ pi le wo v, RS pi le v → v 59 = g → (∀ r, r < 58 → v r = v0 r) → K pi le wo) :
    ∀ (N : Nat) (pi le wo : Nat → Int32) (v : Nat → Nat), RS pi le v → v 58 ≤ N → ln (v 59) ≤ 1490 → ln (v 58) ≤ 1490 → Nat.gcd (v 59) (v 58) = g → (∀ r, r < 58 → v r = v0 r) → wl_X7_common_14 post K (N + 1) pi le wo := by
  have e58 : (58 : Int32).toNatClampNeg = 58 := by decide
  intro N
  induction N with
  | zero =>
    intro pi le wo v h h1 h2 h3 h4 h5
    have hz : v 58 = 0 := by omega
    obtain ⟨-, b2, -⟩ := h 58 (by decide)
    rw [wl_X7_common_14]
    simp only [e58]
    rw [b2, hz, ln_0]
    refine ⟨by unfold vp_in; decide, fun _ => k _ _ _ _ h (by rw [← h4, hz, Nat.gcd_zero_right]) h5, fun hc => absurd (show nI 0 ≤ 0 by decide) hc⟩
  | succ N ih =>
    intro pi le wo v h h1 h2 h3 h4 h5
    obtain ⟨-, b2, -⟩ := h 58 (by decide)
    rw [wl_X7_common_14]
    simp only [e58]
    rw [b2]
    refine ⟨by unfold vp_in; decide, fun hc => ?_, fun hc => ?_⟩
    · have hz : v 58 = 0 := by
        rcases Nat.eq_zero_or_pos (ln (v 58)) with q | q
        · exact ln_eq_0 q
        · exact absurd hc (nI_nle q (by omega))
      exact k _ _ _ _ h (by rw [← h4, hz, Nat.gcd_zero_right]) h5
    · have hnz : v 58 ≠ 0 := fun z => hc (by rw [z, ln_0]; decide)
      refine sp_divide (a := 59) (b := 58) h (by decide) (by decide) hnz h2 ?_
      intro pi1 le1 wo1 v1 r1 d60 d61 d0
      refine sp_copy (d := 59) (a := 58) r1 (by decide) (by decide) (by decide) ?_
      intro pi2 le2 r2
      refine sp_copy (d := 58) (a := 61) r2 (by decide) (by decide) (by decide) ?_
      intro pi3 le3 r3
      have c59 : va_up (va_up v1 59 (v1 58)) 58 (va_up v1 59 (v1 58) 61) 59 = v 58 := by
        rw [va_up_ne _ _ (by decide), va_up_self, d0 58 (by decide)]
      have c58 : va_up (va_up v1 59 (v1 58)) 58 (va_up v1 59 (v1 58) 61) 58 = v 59 % v 58 := by
        rw [va_up_self, va_up_ne _ _ (by decide), d61]
      have hm := Nat.mod_lt (v 59) (Nat.pos_of_ne_zero hnz)
      refine ih _ _ _ _ r3 (by rw [c58]; omega) (by rw [c59]; exact h3) (by rw [c58]; exact Nat.le_trans (ln_mono (Nat.mod_le _ _)) h2) ?_ (fun r hr => ?_)
      · rw [c59, c58, ← h4, Nat.gcd_comm (v 58), ← Nat.gcd_rec, Nat.gcd_comm]
      · rw [va_up_ne _ _ (by omega), va_up_ne _ _ (by omega), d0 r (by omega)]
        exact h5 r hr
theorem sp_common {pi le wo : Nat → Int32} {v : Nat → Nat} {a b : Nat} {post : (Nat → Int32) → (Nat → Int32) → (Nat → Int32) → Prop} (h : RS pi le v) (ha : a < 58) (hb : b < 58) (hla : ln (v a) ≤ 1490) (hlb : ln (v b) ≤ 1490)
    (k : ∀ pi' le' wo' v', RS pi' le' v' → v' 59 = Nat.gcd (v a) (v b) → (∀ r, r < 58 → v' r = v r) → post pi' le' wo') : wp_X7_common pi le wo (nI a) (nI b) post := by
  refine sp_copy (d := 59) h (by decide) (by omega) (by omega) ?_
  intro pi1 le1 r1
  refine sp_copy (d := 58) r1 (by decide) (by omega) (by omega) ?_
  rw [va_up_ne _ _ (by omega : b ≠ 59)]
  intro pi2 le2 r2
  have c59 : va_up (va_up v 59 (v a)) 58 (v b) 59 = v a := by rw [va_up_ne _ _ (by decide), va_up_self]
  have c58 : va_up (va_up v 59 (v a)) 58 (v b) 58 = v b := by rw [va_up_self]
  refine ⟨v b + 1, sl_common_14 (v0 := v) (g := Nat.gcd (v a) (v b)) (fun _ _ _ _ f1 f2 f3 => k _ _ _ _ f1 f2 f3) (v b) pi2 le2 wo _ r2 (by rw [c58]; exact Nat.le_refl _) (by rw [c59]; exact hla) (by rw [c58]; exact hlb) (by rw [c59, c58]) (fun r hr => by rw [va_up_ne _ _ (by omega), va_up_ne _ _ (by omega)])⟩
/-- a fraction of the reference holds a number -/
def Fq (v : Nat → Nat) (sg : Nat → Int32) (f : Nat) (q : Rat) : Prop := v (2 * f) = q.num.natAbs ∧ v (2 * f + 1) = q.den ∧ sg f = iI q.num.sign
theorem n2 (f : Nat) : (2 : Int32) * nI f = nI (2 * f) := by
  rw [show (2 : Int32) = nI 2 from rfl, pk_mul]
theorem n21 (f : Nat) : (2 : Int32) * nI f + 1 = nI (2 * f + 1) := by
  rw [n2, nI_1]
theorem ediv_facts {n : Int} {g : Nat} (hg : 0 < g) (hd : g ∣ n.natAbs) : (n / (g : Int)).natAbs = n.natAbs / g ∧ (n / (g : Int)).sign = n.sign := by
  obtain ⟨k, hk⟩ : (g : Int) ∣ n := Int.ofNat_dvd_left.mpr hd
  have h0 : (g : Int) ≠ 0 := by omega
  rw [hk, Int.mul_ediv_cancel_left _ h0, Int.natAbs_mul, Int.sign_mul, Int.natAbs_natCast, Nat.mul_div_cancel_left _ hg, Int.sign_eq_one_of_pos (show (0 : Int) < g by omega), Int.one_mul]
  exact ⟨rfl, rfl⟩
theorem sp_lowest {pi le sg wo : Nat → Int32} {v : Nat → Nat} {f : Nat} {n : Int} {d : Nat} {post : (Nat → Int32) → (Nat → Int32) → (Nat → Int32) → (Nat → Int32) → Prop} (h : RS pi le v) (hf : f < 24) (hn : v (2 * f) = n.natAbs) (hd : v (2 * f + 1) = d) (hd0 : d ≠ 0) (hs : n ≠ 0 → sg f = iI n.sign) (hl1 : ln n.natAbs ≤ 1490) (hl2 : ln d ≤ 1490)
    (k : ∀ pi' le' sg' wo' v', RS pi' le' v' → Fq v' sg' f (mkRat n d) → (∀ r, r < 54 → r ≠ 2 * f → r ≠ 2 * f + 1 → v' r = v r) → (∀ j, j ≠ f → sg' j = sg j) → post pi' le' sg' wo') : wp_X7_lowest pi le sg wo (nI f) post := by
  obtain ⟨g, hg⟩ : ∃ g, g = Nat.gcd n.natAbs d := ⟨_, rfl⟩
  have hg0 : 0 < g := by rw [hg]; exact Nat.gcd_pos_of_pos_right _ (Nat.pos_of_ne_zero hd0)
  have hgn : g ∣ n.natAbs := by rw [hg]; exact Nat.gcd_dvd_left _ _
  rw [wp_X7_lowest, n2, nI_1, nI_clamp (by omega), nI_clamp (by omega)]
  refine sp_common h (by omega) (by omega) (by rw [hn]; exact hl1) (by rw [hd]; exact hl2) ?_
  rw [hn, hd, ← hg]
  intro pi1 le1 wo1 v1 r1 c1 c2
  refine sp_divide (b := 59) r1 (by omega) (by decide) (by rw [c1]; omega) (by rw [c2 _ (by omega), hn]; exact hl1) ?_
  rw [c1, c2 _ (by omega), hn]
  intro pi2 le2 wo2 v2 r2 d1 _ d3
  refine sp_copy (a := 60) r2 (by omega) (by decide) (by omega) ?_
  rw [d1]
  intro pi3 le3 r3
  have e1 : va_up v2 (2 * f) (n.natAbs / g) (2 * f + 1) = d := by rw [va_up_ne _ _ (by omega), d3 _ (by omega), c2 _ (by omega), hd]
  have e2 : va_up v2 (2 * f) (n.natAbs / g) 59 = g := by rw [va_up_ne _ _ (by omega), d3 _ (by omega), c1]
  refine sp_divide (b := 59) r3 (by omega) (by decide) (by rw [e2]; omega) (by rw [e1]; exact hl2) ?_
  rw [e1, e2]
  intro pi4 le4 wo4 v4 r4 f1 _ f3
  refine sp_copy (a := 60) r4 (by omega) (by decide) (by omega) ?_
  rw [f1]
  intro pi5 le5 r5
  have hv2f : va_up v4 (2 * f + 1) (d / g) (2 * f) = n.natAbs / g := by rw [va_up_ne _ _ (by omega), f3 _ (by omega), va_up_self]
  obtain ⟨-, t2, -⟩ := r5 (2 * f) (by omega)
  rw [hv2f] at t2
  have hfr : ∀ r, r < 54 → r ≠ 2 * f → r ≠ 2 * f + 1 → va_up v4 (2 * f + 1) (d / g) r = v r := by
    intro r hr h1 h2
    rw [va_up_ne _ _ h2, f3 _ (by omega), va_up_ne _ _ h1, d3 _ (by omega), c2 _ (by omega)]
  have qn : (mkRat n d).num = n / (g : Int) := by rw [Rat.num_mkRat, if_neg hd0, hg, Nat.gcd_comm]
  have qd : (mkRat n d).den = d / g := by rw [Rat.den_mkRat, if_neg hd0, hg, Nat.gcd_comm]
  obtain ⟨s1, s2⟩ := ediv_facts hg0 hgn
  have hle := Nat.div_le_self n.natAbs g
  have hll : ln (n.natAbs / g) ≤ 1490 := Nat.le_trans (ln_mono hle) hl1
  rw [t2]
  refine ⟨vp_in_nI (by omega) (by decide), fun hc => k _ _ _ _ _ r5 ⟨?_, ?_, ?_⟩ hfr (fun _ _ => rfl), fun hc => ⟨vp_in_nI (by omega) (by decide), k _ _ _ _ _ r5 ⟨?_, ?_, ?_⟩ hfr (fun j hj => upd_n hj)⟩⟩
  · rw [hv2f, qn, s1]
  · rw [va_up_self, qd]
  · rw [qn, s2]
    refine hs (fun z => hc ?_)
    rw [z]
    show nI (ln (0 / g)) = 0
    rw [Nat.zero_div]
    rfl
  · rw [hv2f, qn, s1]
  · rw [va_up_self, qd]
  · rw [upd_s, qn]
    have hz : n.natAbs / g = 0 := ln_eq_0 ((nI_eq (a := ln (n.natAbs / g)) (b := 0) (by omega) (by decide)).mp hc)
    rw [← s1] at hz
    rw [Int.natAbs_eq_zero.mp hz]
    rfl
/-- the fractions of the reference: those that are told hold their numbers -/
def FS (pi le sg : Nat → Int32) (Q : Nat → Option Rat) : Prop := ∃ v, RS pi le v ∧ ∀ f q, f < 24 → Q f = some q → Fq v sg f q
theorem FS.low {pi le sg wo : Nat → Int32} {v : Nat → Nat} {Q : Nat → Option Rat} {f : Nat} {n : Int} {d : Nat} {post : (Nat → Int32) → (Nat → Int32) → (Nat → Int32) → (Nat → Int32) → Prop} (h : RS pi le v) (hQ : ∀ j q, j < 24 → j ≠ f → Q j = some q → Fq v sg j q) (hf : f < 24) (hn : v (2 * f) = n.natAbs) (hd : v (2 * f + 1) = d) (hd0 : d ≠ 0) (hs : n ≠ 0 → sg f = iI n.sign) (hl1 : ln n.natAbs ≤ 1490) (hl2 : ln d ≤ 1490)
    (k : ∀ pi' le' sg' wo', FS pi' le' sg' (va_up Q f (some (mkRat n d))) → post pi' le' sg' wo') : wp_X7_lowest pi le sg wo (nI f) post := by
  refine sp_lowest h hf hn hd hd0 hs hl1 hl2 ?_
  intro pi' le' sg' wo' v' r' q1 q2 q3
  refine k _ _ _ _ ⟨v', r', fun j q hj hq => ?_⟩
  by_cases hjf : j = f
  · subst hjf
    rw [va_up_self] at hq
    cases hq
    exact q1
  · rw [va_up_ne _ _ hjf] at hq
    obtain ⟨a1, a2, a3⟩ := hQ j q hj hjf hq
    exact ⟨by rw [q2 _ (by omega) (by omega) (by omega)]; exact a1, by rw [q2 _ (by omega) (by omega) (by omega)]; exact a2, by rw [q3 j hjf]; exact a3⟩
theorem sign_iI (s : Int) : iI s.sign = 0 ↔ s = 0 := by
  rw [show (0 : Int32) = iI 0 from rfl, iI_eq ?_ (by omega)]
  · exact Int.sign_eq_zero_iff_zero
  · rcases Int.lt_trichotomy s 0 with z | z | z
    · rw [Int.sign_eq_neg_one_of_neg z]; omega
    · rw [z]; decide
    · rw [Int.sign_eq_one_of_pos z]; omega
theorem sp_fraction {pi le sg wo : Nat → Int32} {Q : Nat → Option Rat} {f d : Nat} {n : Int} {post : (Nat → Int32) → (Nat → Int32) → (Nat → Int32) → (Nat → Int32) → Prop} (h : FS pi le sg Q) (hf : f < 24) (hn : n.natAbs ≤ 1000000) (hd0 : d ≠ 0) (hd : d ≤ 1000000)
    (k : ∀ pi' le' sg' wo', FS pi' le' sg' (va_up Q f (some (mkRat n d))) → post pi' le' sg' wo') : wp_X7_fraction pi le sg wo (nI f) (iI n) (nI d) post := by
  obtain ⟨v, r, hQ⟩ := h
  have z0 : (0 : Int32) = iI 0 := rfl
  have fin : ∀ t : Int32, t = nI n.natAbs → wj_X7_fraction_37 post pi le (upd sg f (iI n.sign)) wo (nI f) (nI d) (nI (2 * f)) t := by
    intro t et
    subst et
    refine sp_small r (by omega) (by omega) ?_
    intro pi1 le1 wo1 r1
    rw [n21]
    refine sp_small r1 (by omega) (by omega) ?_
    intro pi2 le2 wo2 r2
    have hs1 : ln n.natAbs ≤ 1490 := Nat.le_trans (ln_le.mpr (show n.natAbs < tp 2 by have : tp 2 = 4294967296 := rfl; omega)) (by decide)
    have hs2 : ln d ≤ 1490 := Nat.le_trans (ln_le.mpr (show d < tp 2 by have : tp 2 = 4294967296 := rfl; omega)) (by decide)
    refine FS.low (Q := Q) (n := n) (d := d) r2 (fun j q hj hjf hq => ?_) hf (by rw [va_up_ne _ _ (by omega), va_up_self]) (by rw [va_up_self]) hd0 (fun _ => upd_s) hs1 hs2 k
    obtain ⟨a1, a2, a3⟩ := hQ j q hj hq
    exact ⟨by rw [va_up_ne _ _ (by omega), va_up_ne _ _ (by omega)]; exact a1, by rw [va_up_ne _ _ (by omega), va_up_ne _ _ (by omega)]; exact a2, by rw [upd_n hjf]; exact a3⟩
  have mid : ∀ t : Int32, t = iI n.sign → wj_X7_fraction_22 post pi le sg wo (nI f) (iI n) (nI d) (nI f) t := by
    intro t et
    subst et
    rw [wj_X7_fraction_22, n2, nI_clamp (by omega)]
    refine ⟨vp_in_nI (by omega) (by decide), fun hc => fin _ ?_, fun hc => fin _ ?_⟩
    · rw [z0, iI_le (by omega) (by omega)] at hc
      rw [nI_iI]
      congr 1
      omega
    · rw [z0, iI_le (by omega) (by omega)] at hc
      rw [iI_neg, nI_iI]
      congr 1
      omega
  rw [wp_X7_fraction]
  refine ⟨fun hc => ⟨fun hc2 => mid _ ?_, fun hc2 => mid _ ?_⟩, fun hc => mid _ ?_⟩
  · rw [z0, iI_le (by omega) (by omega)] at hc hc2
    have : n = 0 := by omega
    rw [this]
    rfl
  · rw [z0, iI_le (by omega) (by omega)] at hc hc2
    rw [Int.sign_eq_one_of_pos (by omega)]
    rfl
  · rw [z0, iI_le (by omega) (by omega)] at hc
    rw [Int.sign_eq_neg_one_of_neg (by omega)]
    rfl
/-- how long a number's two parts are -/
def sz (q : Rat) (N : Nat) : Prop := ln q.num.natAbs ≤ N ∧ ln q.den ≤ N
theorem ln_add_le {x y N : Nat} (hx : ln x ≤ N) (hy : ln y ≤ N) : ln (x + y) ≤ N + 1 := by
  refine ln_le.mpr ?_
  have h1 := ln_le.mp hx
  have h2 := ln_le.mp hy
  rw [tp_succ]
  omega
theorem sp_multiply {pi le sg wo : Nat → Int32} {Q : Nat → Option Rat} {d a b Na Nb : Nat} {qa qb : Rat} {post : (Nat → Int32) → (Nat → Int32) → (Nat → Int32) → (Nat → Int32) → Prop} (h : FS pi le sg Q) (hd : d < 24) (ha : a < 24) (hb : b < 24) (hda : d ≠ a) (hdb : d ≠ b) (ea : Q a = some qa) (eb : Q b = some qb) (sa : sz qa Na) (sb : sz qb Nb) (hN : Na + Nb ≤ 1490)
    (k : ∀ pi' le' sg' wo', FS pi' le' sg' (va_up Q d (some (qa * qb))) → post pi' le' sg' wo') : wp_X7_multiply pi le sg wo (nI d) (nI a) (nI b) post := by
  obtain ⟨v, r, hQ⟩ := h
  obtain ⟨a1, a2, a3⟩ := hQ a qa ha ea
  obtain ⟨b1, b2, b3⟩ := hQ b qb hb eb
  rw [wp_X7_multiply]
  simp only [n2, nI_1]
  refine ⟨vp_in_nI (by omega) (by decide), vp_in_nI (by omega) (by decide), fun x4 e4 => ?_⟩
  rw [nI_clamp (by omega), nI_clamp (by omega), a3, b3, iI_mul, ← Int.sign_mul] at e4
  subst e4
  have l1 : ln (v (2 * a) * v (2 * b)) ≤ 1490 := by
    rw [a1, b1]
    have := ln_mul_le qa.num.natAbs qb.num.natAbs
    have := sa.1
    have := sb.1
    omega
  have l2 : ln (v (2 * a + 1) * v (2 * b + 1)) ≤ 1490 := by
    rw [a2, b2]
    have := ln_mul_le qa.den qb.den
    have := sa.2
    have := sb.2
    omega
  refine sp_times r (by omega) (by omega) (by omega) (by omega) ?_
  intro pi1 le1 wo1 r1
  have e1 : va_up v (2 * d) (v (2 * a) * v (2 * b)) (2 * a + 1) = v (2 * a + 1) := va_up_ne _ _ (by omega)
  have e2 : va_up v (2 * d) (v (2 * a) * v (2 * b)) (2 * b + 1) = v (2 * b + 1) := va_up_ne _ _ (by omega)
  refine sp_times r1 (by omega) (by omega) (by omega) (by rw [e1, e2]; omega) ?_
  rw [e1, e2]
  intro pi2 le2 wo2 r2
  refine ⟨vp_in_nI (by omega) (by decide), ?_⟩
  rw [nI_clamp (by omega)]
  refine FS.low (Q := Q) (n := qa.num * qb.num) (d := qa.den * qb.den) r2 (fun j q hj hjf hq => ?_) hd (by rw [va_up_ne _ _ (by omega), va_up_self, a1, b1, Int.natAbs_mul]) (by rw [va_up_self, a2, b2]) (Nat.mul_ne_zero qa.den_nz qb.den_nz) (fun _ => upd_s) (by rw [Int.natAbs_mul, ← a1, ← b1]; exact l1) (by rw [← a2, ← b2]; exact l2) ?_
  · obtain ⟨c1, c2, c3⟩ := hQ j q hj hq
    exact ⟨by rw [va_up_ne _ _ (by omega), va_up_ne _ _ (by omega)]; exact c1, by rw [va_up_ne _ _ (by omega), va_up_ne _ _ (by omega)]; exact c2, by rw [upd_n hjf]; exact c3⟩
  · intro pi' le' sg' wo' hFS
    rw [← Rat.mul_def'] at hFS
    exact k _ _ _ _ hFS
