theorem sign_rng (s : Int) : -1 ≤ s.sign ∧ s.sign ≤ 1 := by
  rcases Int.lt_trichotomy s 0 with z | z | z
  · rw [Int.sign_eq_neg_one_of_neg z]; omega
  · rw [z]; decide
  · rw [Int.sign_eq_one_of_pos z]; omega
theorem sign_eq (a b : Int) : iI a.sign = iI b.sign ↔ a.sign = b.sign := by
  have h1 := sign_rng a
  have h2 := sign_rng b
  exact iI_eq (by omega) (by omega)
theorem sign_same {a b : Int} (h : a.sign = b.sign) : (a + b).natAbs = a.natAbs + b.natAbs ∧ (a + b).sign = a.sign := by
  rcases Int.lt_trichotomy a 0 with z | z | z <;> rcases Int.lt_trichotomy b 0 with y | y | y
  · rw [Int.sign_eq_neg_one_of_neg z, Int.sign_eq_neg_one_of_neg (show a + b < 0 by omega)]; exact ⟨by omega, rfl⟩
  · rw [Int.sign_eq_neg_one_of_neg z, y] at h; exact absurd h (by decide)
  · rw [Int.sign_eq_neg_one_of_neg z, Int.sign_eq_one_of_pos y] at h; exact absurd h (by decide)
  · rw [Int.sign_eq_neg_one_of_neg y, z] at h; exact absurd h (by decide)
  · rw [z, y]; exact ⟨rfl, rfl⟩
  · rw [Int.sign_eq_one_of_pos y, z] at h; exact absurd h (by decide)
  · rw [Int.sign_eq_one_of_pos z, Int.sign_eq_neg_one_of_neg y] at h; exact absurd h (by decide)
  · rw [Int.sign_eq_one_of_pos z, y] at h; exact absurd h (by decide)
  · rw [Int.sign_eq_one_of_pos z, Int.sign_eq_one_of_pos (show 0 < a + b by omega)]; exact ⟨by omega, rfl⟩
theorem sign_opp {a b : Int} (ha : a ≠ 0) (hb : b ≠ 0) (h : a.sign ≠ b.sign) : (b.natAbs < a.natAbs → (a + b).natAbs = a.natAbs - b.natAbs ∧ (a + b).sign = a.sign) ∧ (a.natAbs < b.natAbs → (a + b).natAbs = b.natAbs - a.natAbs ∧ (a + b).sign = b.sign) ∧ (a.natAbs = b.natAbs → a + b = 0) := by
  rcases Int.lt_or_gt_of_ne ha with z | z <;> rcases Int.lt_or_gt_of_ne hb with y | y
  · rw [Int.sign_eq_neg_one_of_neg z, Int.sign_eq_neg_one_of_neg y] at h; exact absurd rfl h
  · refine ⟨fun q => ?_, fun q => ?_, fun q => by omega⟩
    · rw [Int.sign_eq_neg_one_of_neg z, Int.sign_eq_neg_one_of_neg (show a + b < 0 by omega)]; exact ⟨by omega, rfl⟩
    · rw [Int.sign_eq_one_of_pos y, Int.sign_eq_one_of_pos (show 0 < a + b by omega)]; exact ⟨by omega, rfl⟩
  · refine ⟨fun q => ?_, fun q => ?_, fun q => by omega⟩
    · rw [Int.sign_eq_one_of_pos z, Int.sign_eq_one_of_pos (show 0 < a + b by omega)]; exact ⟨by omega, rfl⟩
    · rw [Int.sign_eq_neg_one_of_neg y, Int.sign_eq_neg_one_of_neg (show a + b < 0 by omega)]; exact ⟨by omega, rfl⟩
  · rw [Int.sign_eq_one_of_pos z, Int.sign_eq_one_of_pos y] at h; exact absurd rfl h
theorem sp_addS {pi le sg wo : Nat → Int32} {Q : Nat → Option Rat} {d a b Na Nb : Nat} {qa qb : Rat} {s : Int} {post : (Nat → Int32) → (Nat → Int32) → (Nat → Int32) → (Nat → Int32) → Prop} (h : FS pi le sg Q) (hd : d < 24) (ha : a < 24) (hb : b < 24) (hdb : d ≠ b) (ea : Q a = some qa) (eb : Q b = some qb) (sa : sz qa Na) (sb : sz qb Nb) (hN : Na + Nb + 1 ≤ 1490) (hs : s = 1 ∨ s = -1)
    (k : ∀ pi' le' sg' wo', FS pi' le' sg' (va_up Q d (some (mkRat (qa.num * qb.den + s * (qb.num * qa.den)) (qa.den * qb.den)))) → post pi' le' sg' wo') : wp_X7_add pi le sg wo (nI d) (nI a) (nI b) (iI s) post := by
  obtain ⟨v, r, hQ⟩ := h
  obtain ⟨a1, a2, a3⟩ := hQ a qa ha ea
  obtain ⟨b1, b2, b3⟩ := hQ b qb hb eb
  have la := sa.1
  have la2 := sa.2
  have lb := sb.1
  have lb2 := sb.2
  have m1 := ln_mul_le qa.num.natAbs qb.den
  have m2 := ln_mul_le qb.num.natAbs qa.den
  have m3 := ln_mul_le qa.den qb.den
  have da0 : (0 : Int) < qa.den := by have := qa.den_nz; omega
  have db0 : (0 : Int) < qb.den := by have := qb.den_nz; omega
  obtain ⟨A, hA⟩ : ∃ A : Int, A = qa.num * qb.den := ⟨_, rfl⟩
  obtain ⟨Bn, hB⟩ : ∃ Bn : Int, Bn = s * (qb.num * qa.den) := ⟨_, rfl⟩
  have nA : A.natAbs = qa.num.natAbs * qb.den := by rw [hA, Int.natAbs_mul, Int.natAbs_natCast]
  have ns : s.natAbs = 1 := by rcases hs with z | z <;> rw [z] <;> rfl
  have nB : Bn.natAbs = qb.num.natAbs * qa.den := by rw [hB, Int.natAbs_mul, Int.natAbs_mul, Int.natAbs_natCast, ns, Nat.one_mul]
  have sA : A.sign = qa.num.sign := by rw [hA, Int.sign_mul, Int.sign_eq_one_of_pos db0, Int.mul_one]
  have ss : s.sign = s := by rcases hs with z | z <;> rw [z] <;> rfl
  have sB : Bn.sign = s * qb.num.sign := by rw [hB, Int.sign_mul, Int.sign_mul, Int.sign_eq_one_of_pos da0, Int.mul_one, ss]
  rw [← hA, ← hB] at k
  rw [wp_X7_add]
  simp only [n2, nI_1]
  refine sp_times (d := 54) r (by decide) (by omega) (by omega) (by rw [a1, b2]; omega) ?_
  intro pi1 le1 wo1 r1
  refine sp_times (d := 55) r1 (by decide) (by omega) (by omega) (by rw [va_up_ne _ _ (by omega), va_up_ne _ _ (by omega), b1, a2]; omega) ?_
  rw [va_up_ne _ _ (by omega : 2 * b ≠ 54), va_up_ne _ _ (by omega : 2 * a + 1 ≠ 54)]
  intro pi2 le2 wo2 r2
  refine sp_times r2 (by omega) (by omega) (by omega) (by rw [va_up_ne _ _ (by omega), va_up_ne _ _ (by omega), va_up_ne _ _ (by omega), va_up_ne _ _ (by omega), a2, b2]; omega) ?_
  rw [va_up_ne _ _ (by omega : 2 * a + 1 ≠ 55), va_up_ne _ _ (by omega : 2 * a + 1 ≠ 54), va_up_ne _ _ (by omega : 2 * b + 1 ≠ 55), va_up_ne _ _ (by omega : 2 * b + 1 ≠ 54)]
  intro pi3 le3 wo3 r3
  rw [a1, a2, b1, b2, ← nA, ← nB] at r3
  obtain ⟨V, hV⟩ : ∃ V, V = va_up (va_up (va_up v 54 A.natAbs) 55 Bn.natAbs) (2 * d + 1) (qa.den * qb.den) := ⟨_, rfl⟩
  rw [← hV] at r3
  have V54 : V 54 = A.natAbs := by rw [hV, va_up_ne _ _ (by omega), va_up_ne _ _ (by decide), va_up_self]
  have V55 : V 55 = Bn.natAbs := by rw [hV, va_up_ne _ _ (by omega), va_up_self]
  have hsum : ln (A.natAbs + Bn.natAbs) ≤ 1490 := by
    have := ln_add_le (N := Na + Nb) (x := A.natAbs) (y := Bn.natAbs) (by rw [nA]; omega) (by rw [nB]; omega)
    omega
  have hsz : ln (A + Bn).natAbs ≤ 1490 := Nat.le_trans (ln_mono (Int.natAbs_add_le A Bn)) hsum
  have fin : ∀ (pi' le' wo' : Nat → Int32) (X : Nat) (t : Int32), RS pi' le' (va_up V (2 * d) X) → X = (A + Bn).natAbs → (A + Bn ≠ 0 → t = iI (A + Bn).sign) → wj_X7_add_182 post pi' le' (upd sg d t) wo' (nI d) := by
    intro pi' le' wo' X t r' hX ht
    subst hX
    refine FS.low (Q := Q) (n := A + Bn) (d := qa.den * qb.den) r' (fun j q hj hjf hq => ?_) hd (by rw [va_up_self]) (by rw [va_up_ne _ _ (by omega), hV, va_up_self]) (Nat.mul_ne_zero qa.den_nz qb.den_nz) (fun z => by rw [upd_s]; exact ht z) hsz (by omega) k
    obtain ⟨c1, c2, c3⟩ := hQ j q hj hq
    refine ⟨?_, ?_, by rw [upd_n hjf]; exact c3⟩
    · rw [va_up_ne _ _ (by omega), hV, va_up_ne _ _ (by omega), va_up_ne _ _ (by omega), va_up_ne _ _ (by omega)]
      exact c1
    · rw [va_up_ne _ _ (by omega), hV, va_up_ne _ _ (by omega), va_up_ne _ _ (by omega), va_up_ne _ _ (by omega)]
      exact c2
  refine ⟨vp_in_nI (by omega) (by decide), fun x5 e5 => ⟨vp_in_nI (by omega) (by decide), fun x6 e6 => ?_⟩⟩
  rw [nI_clamp (by omega), b3, iI_mul, ← sB] at e5
  rw [nI_clamp (by omega), a3, ← sA] at e6
  subst e5
  subst e6
  have plus : (A = 0 ∨ Bn = 0 ∨ A.sign = Bn.sign) → wj_X7_add_83 post pi3 le3 sg wo3 (nI d) (iI Bn.sign) (iI A.sign) := by
    intro hor
    have hnat : A.natAbs + Bn.natAbs = (A + Bn).natAbs := by
      rcases hor with z | z | z
      · rw [z, Int.zero_add]; simp
      · rw [z, Int.add_zero]; simp
      · exact (sign_same z).1.symm
    rw [wj_X7_add_83, n2]
    refine sp_plus (a := 54) (b := 55) r3 (by omega) (by decide) (by decide) (by rw [V54, V55]; omega) ?_
    rw [V54, V55]
    intro pi4 le4 wo4 r4
    refine ⟨fun hc => ⟨vp_in_nI (by omega) (by decide), ?_⟩, fun hc => ⟨vp_in_nI (by omega) (by decide), ?_⟩⟩
    · rw [nI_clamp (by omega)]
      refine fin _ _ _ _ _ r4 hnat (fun _ => ?_)
      rw [sign_iI] at hc
      rcases hor with z | z | z
      · exact absurd z hc
      · rw [z, Int.add_zero]
      · rw [(sign_same z).2]
    · rw [nI_clamp (by omega)]
      rw [sign_iI] at hc
      refine fin _ _ _ _ _ r4 hnat (fun _ => ?_)
      rw [hc, Int.zero_add]
  refine ⟨fun hc => plus (Or.inl ((sign_iI A).mp hc)), fun hc => ⟨fun hc2 => plus (Or.inr (Or.inl ((sign_iI Bn).mp hc2))), fun hc2 => ⟨fun hc3 => ?_, fun hc3 => plus (Or.inr (Or.inr ((sign_eq A Bn).mp hc3)))⟩⟩⟩
  have hA0 : A ≠ 0 := fun z => hc ((sign_iI A).mpr z)
  have hB0 : Bn ≠ 0 := fun z => hc2 ((sign_iI Bn).mpr z)
  obtain ⟨o1, o2, o3⟩ := sign_opp hA0 hB0 (fun z => hc3 ((sign_eq A Bn).mpr z))
  refine sp_order (a := 54) (b := 55) r3 (by decide) (by decide) ?_ ?_ ?_
  · rw [V54, V55]
    intro hlt
    obtain ⟨p1, p2⟩ := o2 hlt
    refine ⟨fun _ => ⟨fun _ => ⟨vp_in_nI (by omega) (by decide), fun _ => ?_, fun hz => absurd (show (-1 : Int32) < 0 by decide) hz⟩, fun hz => absurd (show (-1 : Int32) ≤ 0 by decide) hz⟩, fun hz => absurd hz (by decide)⟩
    rw [n2, nI_clamp (by omega)]
    refine sp_minus (a := 55) (b := 54) r3 (by omega) (by decide) (by decide) (by rw [V54, V55]; omega) ?_
    rw [V54, V55]
    intro pi4 le4 wo4 r4
    exact fin _ _ _ _ _ r4 p1.symm (fun _ => by rw [p2])
  · rw [V54, V55]
    intro heq
    have p0 := o3 heq
    refine ⟨fun hz => absurd rfl hz, fun _ => ⟨vp_in_nI (by omega) (by decide), fun hz => absurd hz (by decide), fun _ => ?_⟩⟩
    rw [n2, nI_clamp (by omega)]
    refine sp_minus (a := 54) (b := 55) r3 (by omega) (by decide) (by decide) (by rw [V54, V55]; omega) ?_
    rw [V54, V55]
    intro pi4 le4 wo4 r4
    refine fin _ _ _ _ _ r4 ?_ (fun z => absurd p0 z)
    rw [p0, heq, Nat.sub_self]
    rfl
  · rw [V54, V55]
    intro hgt
    obtain ⟨p1, p2⟩ := o1 hgt
    refine ⟨fun _ => ⟨fun hz => absurd hz (by decide), fun _ => ⟨vp_in_nI (by omega) (by decide), fun hz => absurd hz (by decide), fun _ => ?_⟩⟩, fun hz => absurd hz (by decide)⟩
    rw [n2, nI_clamp (by omega)]
    refine sp_minus (a := 54) (b := 55) r3 (by omega) (by decide) (by decide) (by rw [V54, V55]; omega) ?_
    rw [V54, V55]
    intro pi4 le4 wo4 r4
    exact fin _ _ _ _ _ r4 p1.symm (fun _ => by rw [p2])
theorem sp_add {pi le sg wo : Nat → Int32} {Q : Nat → Option Rat} {d a b Na Nb : Nat} {qa qb : Rat} {post : (Nat → Int32) → (Nat → Int32) → (Nat → Int32) → (Nat → Int32) → Prop} (h : FS pi le sg Q) (hd : d < 24) (ha : a < 24) (hb : b < 24) (hdb : d ≠ b) (ea : Q a = some qa) (eb : Q b = some qb) (sa : sz qa Na) (sb : sz qb Nb) (hN : Na + Nb + 1 ≤ 1490)
    (k : ∀ pi' le' sg' wo', FS pi' le' sg' (va_up Q d (some (qa + qb))) → post pi' le' sg' wo') : wp_X7_add pi le sg wo (nI d) (nI a) (nI b) 1 post := by
  refine sp_addS (s := 1) h hd ha hb hdb ea eb sa sb hN (Or.inl rfl) ?_
  rw [Int.one_mul, ← Rat.add_def']
  exact k
theorem sp_sub {pi le sg wo : Nat → Int32} {Q : Nat → Option Rat} {d a b Na Nb : Nat} {qa qb : Rat} {post : (Nat → Int32) → (Nat → Int32) → (Nat → Int32) → (Nat → Int32) → Prop} (h : FS pi le sg Q) (hd : d < 24) (ha : a < 24) (hb : b < 24) (hdb : d ≠ b) (ea : Q a = some qa) (eb : Q b = some qb) (sa : sz qa Na) (sb : sz qb Nb) (hN : Na + Nb + 1 ≤ 1490)
    (k : ∀ pi' le' sg' wo', FS pi' le' sg' (va_up Q d (some (qa - qb))) → post pi' le' sg' wo') : wp_X7_add pi le sg wo (nI d) (nI a) (nI b) (-1) post := by
  have e1 : (-1 : Int32) = iI (-1) := by decide
  rw [e1]
  refine sp_addS (s := -1) h hd ha hb hdb ea eb sa sb hN (Or.inr rfl) ?_
  rw [show qa.num * (qb.den : Int) + -1 * (qb.num * (qa.den : Int)) = qa.num * qb.den - qb.num * qa.den by omega, ← Rat.sub_def']
  exact k
theorem sp_quotient {pi le sg wo : Nat → Int32} {Q : Nat → Option Rat} {d a b Na Nb : Nat} {qa qb : Rat} {post : (Nat → Int32) → (Nat → Int32) → (Nat → Int32) → (Nat → Int32) → Prop} (h : FS pi le sg Q) (hd : d < 24) (ha : a < 24) (hb : b < 24) (ea : Q a = some qa) (eb : Q b = some qb) (sa : sz qa Na) (sb : sz qb Nb) (hN : Na + Nb ≤ 1490) (hb0 : qb ≠ 0)
    (k : ∀ pi' le' sg' wo', FS pi' le' sg' (va_up Q d (some (qa / qb))) → post pi' le' sg' wo') : wp_X7_quotient pi le sg wo (nI d) (nI a) (nI b) post := by
  obtain ⟨v, r, hQ⟩ := h
  obtain ⟨a1, a2, a3⟩ := hQ a qa ha ea
  obtain ⟨b1, b2, b3⟩ := hQ b qb hb eb
  have la := sa.1
  have la2 := sa.2
  have lb := sb.1
  have lb2 := sb.2
  have m1 := ln_mul_le qa.num.natAbs qb.den
  have m2 := ln_mul_le qa.den qb.num.natAbs
  have hnb : qb.num ≠ 0 := fun z => hb0 (Rat.num_eq_zero.mp z)
  have hnn : qb.num.natAbs ≠ 0 := fun z => hnb (Int.natAbs_eq_zero.mp z)
  have db0 : (0 : Int) < qb.den := by have := qb.den_nz; omega
  rw [wp_X7_quotient]
  simp only [n2, nI_1]
  refine ⟨vp_in_nI (by omega) (by decide), vp_in_nI (by omega) (by decide), fun x4 e4 => ?_⟩
  rw [nI_clamp (by omega), nI_clamp (by omega), a3, b3, iI_mul] at e4
  subst e4
  refine sp_times (d := 54) r (by decide) (by omega) (by omega) (by rw [a1, b2]; omega) ?_
  intro pi1 le1 wo1 r1
  refine sp_times (d := 55) r1 (by decide) (by omega) (by omega) (by rw [va_up_ne _ _ (by omega), va_up_ne _ _ (by omega), b1, a2]; omega) ?_
  rw [va_up_ne _ _ (by omega : 2 * a + 1 ≠ 54), va_up_ne _ _ (by omega : 2 * b ≠ 54)]
  intro pi2 le2 wo2 r2
  rw [a1, a2, b1, b2] at r2
  refine sp_copy (a := 54) r2 (by omega) (by decide) (by omega) ?_
  rw [va_up_ne _ _ (by decide : (54 : Nat) ≠ 55), va_up_self]
  intro pi3 le3 r3
  refine sp_copy (a := 55) r3 (by omega) (by decide) (by omega) ?_
  rw [va_up_ne _ _ (by omega : (55 : Nat) ≠ 2 * d), va_up_self]
  intro pi4 le4 r4
  refine ⟨vp_in_nI (by omega) (by decide), ?_⟩
  rw [nI_clamp (by omega)]
  have hsgn : qb.num.sign.natAbs = 1 := by
    rcases Int.lt_or_gt_of_ne hnb with z | z
    · rw [Int.sign_eq_neg_one_of_neg z]; rfl
    · rw [Int.sign_eq_one_of_pos z]; rfl
  have hnabs : (qa.num * (qb.num.sign * qb.den)).natAbs = qa.num.natAbs * qb.den := by
    rw [Int.natAbs_mul, Int.natAbs_mul, Int.natAbs_natCast, hsgn, Nat.one_mul]
  refine FS.low (Q := Q) (n := qa.num * (qb.num.sign * qb.den)) (d := qa.den * qb.num.natAbs) r4 (fun j q hj hjf hq => ?_) hd (by rw [va_up_ne _ _ (by omega), va_up_self, hnabs]) (by rw [va_up_self]) (Nat.mul_ne_zero qa.den_nz hnn) (fun _ => ?_) (by rw [hnabs]; omega) (by omega) ?_
  · obtain ⟨c1, c2, c3⟩ := hQ j q hj hq
    refine ⟨?_, ?_, by rw [upd_n hjf]; exact c3⟩
    · rw [va_up_ne _ _ (by omega), va_up_ne _ _ (by omega), va_up_ne _ _ (by omega), va_up_ne _ _ (by omega)]
      exact c1
    · rw [va_up_ne _ _ (by omega), va_up_ne _ _ (by omega), va_up_ne _ _ (by omega), va_up_ne _ _ (by omega)]
      exact c2
  · rw [upd_s, Int.sign_mul, Int.sign_mul, Int.sign_eq_one_of_pos db0, Int.mul_one]
    congr 2
    rcases Int.lt_or_gt_of_ne hnb with z | z
    · rw [Int.sign_eq_neg_one_of_neg z]; rfl
    · rw [Int.sign_eq_one_of_pos z]; rfl
  · intro pi' le' sg' wo' hFS
    refine k _ _ _ _ ?_
    rw [Rat.div_def, Rat.mul_def', Rat.num_inv, Rat.den_inv, if_neg hnb]
    exact hFS
theorem sp_same {pi le sg : Nat → Int32} {Q : Nat → Option Rat} {d a : Nat} {q : Rat} {post : (Nat → Int32) → (Nat → Int32) → (Nat → Int32) → Prop} (h : FS pi le sg Q) (hd : d < 24) (ha : a < 24) (hda : d ≠ a) (ea : Q a = some q)
    (k : ∀ pi' le' sg', FS pi' le' sg' (va_up Q d (some q)) → post pi' le' sg') : wp_X7_same pi le sg (nI d) (nI a) post := by
  obtain ⟨v, r, hQ⟩ := h
  obtain ⟨a1, a2, a3⟩ := hQ a q ha ea
  rw [wp_X7_same]
  simp only [n2, nI_1]
  refine sp_copy r (by omega) (by omega) (by omega) ?_
  intro pi1 le1 r1
  refine sp_copy r1 (by omega) (by omega) (by omega) ?_
  rw [va_up_ne _ _ (by omega : 2 * a + 1 ≠ 2 * d)]
  intro pi2 le2 r2
  refine ⟨vp_in_nI (by omega) (by decide), vp_in_nI (by omega) (by decide), k _ _ _ ⟨_, r2, fun j z hj hz => ?_⟩⟩
  rw [nI_clamp (by omega), nI_clamp (by omega)]
  by_cases hjd : j = d
  · subst hjd
    rw [va_up_self] at hz
    cases hz
    exact ⟨by rw [va_up_ne _ _ (by omega), va_up_self, a1], by rw [va_up_self, a2], by rw [upd_s, a3]⟩
  · rw [va_up_ne _ _ hjd] at hz
    obtain ⟨c1, c2, c3⟩ := hQ j z hj hz
    exact ⟨by rw [va_up_ne _ _ (by omega), va_up_ne _ _ (by omega)]; exact c1, by rw [va_up_ne _ _ (by omega), va_up_ne _ _ (by omega)]; exact c2, by rw [upd_n hjd]; exact c3⟩
theorem at_nI (p i j : Nat) : (4 : Int32) * nI p + 2 * nI i + nI j = nI (4 * p + 2 * i + j) := by
  rw [show (4 : Int32) = nI 4 from rfl, pk_mul, n2, nI_add, nI_add]
theorem sp_model {ab be pi le sg wo : Nat → Int32} {Q : Nat → Option Rat} {f p i j d : Nat} {n : Int} {post : (Nat → Int32) → (Nat → Int32) → (Nat → Int32) → (Nat → Int32) → Prop} (h : FS pi le sg Q) (hf : f < 24) (hx : 4 * p + 2 * i + j < 40) (e1 : ab (4 * p + 2 * i + j) = iI n) (e2 : be (4 * p + 2 * i + j) = nI d) (hn : n.natAbs ≤ 1000000) (hd0 : d ≠ 0) (hd : d ≤ 1000000)
    (k : ∀ pi' le' sg' wo', FS pi' le' sg' (va_up Q f (some (mkRat n d))) → post pi' le' sg' wo') : wp_X7_model ab be pi le sg wo (nI f) (nI p) (nI i) (nI j) post := by
  rw [wp_X7_model]
  show vp_in (4 * nI p + 2 * nI i + nI j) 40 ∧ vp_in (4 * nI p + 2 * nI i + nI j) 40 ∧ _
  rw [at_nI, nI_clamp (by omega), e1, e2]
  exact ⟨vp_in_nI hx (by decide), vp_in_nI hx (by decide), sp_fraction h hf hn hd0 hd k⟩
