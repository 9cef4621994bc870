/-! ===== numbers' lengths, the told model, lists of fractions ===== -/
theorem sz_mkRat {n : Int} {d N : Nat} (hd : d ≠ 0) (h1 : ln n.natAbs ≤ N) (h2 : ln d ≤ N) : sz (mkRat n d) N := by
  have hg : 0 < d.gcd n.natAbs := Nat.gcd_pos_of_pos_left _ (Nat.pos_of_ne_zero hd)
  refine ⟨?_, ?_⟩
  · rw [Rat.num_mkRat, if_neg hd, (ediv_facts hg (Nat.gcd_dvd_right _ _)).1]
    exact Nat.le_trans (ln_mono (Nat.div_le_self _ _)) h1
  · rw [Rat.den_mkRat, if_neg hd]
    exact Nat.le_trans (ln_mono (Nat.div_le_self _ _)) h2
theorem sz_mul {a b : Rat} {Na Nb : Nat} (ha : sz a Na) (hb : sz b Nb) : sz (a * b) (Na + Nb) := by
  rw [Rat.mul_def']
  have m1 := ln_mul_le a.num.natAbs b.num.natAbs
  have m2 := ln_mul_le a.den b.den
  have h1 := ha.1
  have h2 := ha.2
  have h3 := hb.1
  have h4 := hb.2
  exact sz_mkRat (Nat.mul_ne_zero a.den_nz b.den_nz) (by rw [Int.natAbs_mul]; omega) (by omega)
theorem sz_add {a b : Rat} {Na Nb : Nat} (ha : sz a Na) (hb : sz b Nb) : sz (a + b) (Na + Nb + 1) := by
  rw [Rat.add_def']
  have m1 := ln_mul_le a.num.natAbs b.den
  have m2 := ln_mul_le b.num.natAbs a.den
  have m3 := ln_mul_le a.den b.den
  have h1 := ha.1
  have h2 := ha.2
  have h3 := hb.1
  have h4 := hb.2
  refine sz_mkRat (Nat.mul_ne_zero a.den_nz b.den_nz) ?_ (by omega)
  refine Nat.le_trans (ln_mono (Int.natAbs_add_le _ _)) ?_
  rw [Int.natAbs_mul, Int.natAbs_mul, Int.natAbs_natCast, Int.natAbs_natCast]
  exact ln_add_le (by omega) (by omega)
theorem sz_neg {a : Rat} {N : Nat} (h : sz a N) : sz (-a) N := by
  refine ⟨?_, h.2⟩
  rw [Rat.neg_num, Int.natAbs_neg]
  exact h.1
theorem sz_sub {a b : Rat} {Na Nb : Nat} (ha : sz a Na) (hb : sz b Nb) : sz (a - b) (Na + Nb + 1) := by
  rw [Rat.sub_eq_add_neg]
  exact sz_add ha (sz_neg hb)
theorem sz_div {a b : Rat} {Na Nb : Nat} (hb0 : b ≠ 0) (ha : sz a Na) (hb : sz b Nb) : sz (a / b) (Na + Nb) := by
  have hnb : b.num ≠ 0 := fun z => hb0 (Rat.num_eq_zero.mp z)
  have h : sz b⁻¹ Nb := by
    refine ⟨?_, ?_⟩
    · rw [Rat.num_inv, Int.natAbs_mul, Int.natAbs_natCast]
      have : b.num.sign.natAbs = 1 := by
        rcases Int.lt_or_gt_of_ne hnb with z | z
        · rw [Int.sign_eq_neg_one_of_neg z]; rfl
        · rw [Int.sign_eq_one_of_pos z]; rfl
      rw [this, Nat.one_mul]
      exact hb.2
    · rw [Rat.den_inv, if_neg hnb]
      exact hb.1
  rw [Rat.div_def]
  exact sz_mul ha h
/-- the told model in the reference's arrays -/
def MD (ab be : Nat → Int32) (an : Nat → Int) (ad : Nat → Nat) : Prop := ∀ i, i < 40 → ab i = iI (an i) ∧ be i = nI (ad i) ∧ (an i).natAbs ≤ 20 ∧ ad i ≠ 0 ∧ ad i ≤ 20
def md (an : Nat → Int) (ad : Nat → Nat) (p i j : Nat) : Rat := mkRat (an (4 * p + 2 * i + j)) (ad (4 * p + 2 * i + j))
theorem ln_small {x : Nat} (h : x ≤ 1000) : ln x ≤ 1 := ln_le.mpr (by rw [tp_1]; omega)
theorem sz_md {ab be : Nat → Int32} {an : Nat → Int} {ad : Nat → Nat} (h : MD ab be an ad) {p i j : Nat} (hx : 4 * p + 2 * i + j < 40) : sz (md an ad p i j) 1 := by
  obtain ⟨-, -, h3, h4, h5⟩ := h _ hx
  exact sz_mkRat h4 (ln_small (by omega)) (ln_small (by omega))
theorem sp_md {ab be pi le sg wo : Nat → Int32} {an : Nat → Int} {ad : Nat → Nat} {Q : Nat → Option Rat} {f p i j : Nat} {post : (Nat → Int32) → (Nat → Int32) → (Nat → Int32) → (Nat → Int32) → Prop} (hM : MD ab be an ad) (h : FS pi le sg Q) (hf : f < 24) (hx : 4 * p + 2 * i + j < 40)
    (k : ∀ pi' le' sg' wo', FS pi' le' sg' (va_up Q f (some (md an ad p i j))) → post pi' le' sg' wo') : wp_X7_model ab be pi le sg wo (nI f) (nI p) (nI i) (nI j) post := by
  obtain ⟨h1, h2, h3, h4, h5⟩ := hM _ hx
  exact sp_model h hf hx h1 h2 (by omega) h4 (by omega) k
def lk (l : List (Nat × Option Rat)) (f : Nat) : Option Rat := match l with
  | [] => none
  | z :: l => if f = z.1 then z.2 else lk l f
theorem lk_up (l : List (Nat × Option Rat)) (d : Nat) (q : Rat) : va_up (lk l) d (some q) = lk ((d, some q) :: l) := by
  funext f
  simp only [va_up, lk]
def lks (l : List (Nat × Option Rat)) : List (Nat × Option Rat) → Prop
  | [] => True
  | z :: t => lk l z.1 = z.2 ∧ lks l t
theorem FS.sub {pi le sg : Nat → Int32} {l l' : List (Nat × Option Rat)} (h : FS pi le sg (lk l)) (hs : lks l l') : FS pi le sg (lk l') := by
  obtain ⟨v, r, hQ⟩ := h
  refine ⟨v, r, fun f q hf hq => hQ f q hf ?_⟩
  clear hQ r
  induction l' with
  | nil => simp [lk] at hq
  | cons z t ih =>
    simp only [lk] at hq
    by_cases hz : f = z.1
    · rw [if_pos hz] at hq
      rw [hz, hs.1, hq]
    · rw [if_neg hz] at hq
      exact ih hs.2 hq
theorem FS.sg0 {pi le sg : Nat → Int32} {Q : Nat → Option Rat} {f : Nat} {q : Rat} (h : FS pi le sg Q) (hf : f < 24) (e : Q f = some q) : sg f = 0 ↔ q = 0 := by
  obtain ⟨v, r, hQ⟩ := h
  rw [(hQ f q hf e).2.2, sign_iI, Rat.num_eq_zero]
set_option maxHeartbeats 4000000 in
set_option maxRecDepth 100000 in
theorem sp_variance1 {ab be pi le sg wo : Nat → Int32} {an : Nat → Int} {ad : Nat → Nat} {x0 p00 : Rat} {o6 o7 o8 o9 : Option Rat} (hM : MD ab be an ad) (hF : FS pi le sg (lk [(0, some (x0)), (2, some (p00)), (6, o6), (7, o7), (8, o8), (9, o9)])) (zx0 : sz x0 160) (zp00 : sz p00 160) {post : Int32 → (Nat → Int32) → (Nat → Int32) → (Nat → Int32) → (Nat → Int32) → Prop}
    (k0 : ∀ pi le sg wo, ((md an ad 6 0 0) + ((md an ad 5 0 0) * ((mkRat 0 1) + ((p00) * (md an ad 5 0 0))))) = 0 → FS pi le sg (lk [(0, some (x0)), (2, some (p00)), (6, o6), (7, o7), (8, o8), (9, o9), (10, some ((mkRat 0 1) + ((p00) * (md an ad 5 0 0)))), (12, some ((md an ad 6 0 0) + ((md an ad 5 0 0) * ((mkRat 0 1) + ((p00) * (md an ad 5 0 0))))))]) → post 0 pi le sg wo)
    (k1 : ∀ pi le sg wo, ((md an ad 6 0 0) + ((md an ad 5 0 0) * ((mkRat 0 1) + ((p00) * (md an ad 5 0 0))))) ≠ 0 → FS pi le sg (lk [(0, some (x0)), (2, some (p00)), (6, o6), (7, o7), (8, o8), (9, o9), (10, some ((mkRat 0 1) + ((p00) * (md an ad 5 0 0)))), (12, some ((md an ad 6 0 0) + ((md an ad 5 0 0) * ((mkRat 0 1) + ((p00) * (md an ad 5 0 0))))))]) → post 1 pi le sg wo) : wp_X7_variance 1 ab be pi le sg wo post := by
  rw [wp_X7_variance]
  refine sp_md (f := 12) (p := 6) (i := 0) (j := 0) hM hF (by decide) (by decide) ?_
  intro pi le sg wo hF
  have z1 : sz (md an ad 6 0 0) 1 := sz_md hM (by decide)
  have hF : FS pi le sg (lk [(0, some (x0)), (2, some (p00)), (6, o6), (7, o7), (8, o8), (9, o9), (12, some (md an ad 6 0 0))]) := FS.sub (by rw [lk_up] at hF; exact hF) ⟨rfl, rfl, rfl, rfl, rfl, rfl, rfl, trivial⟩
  refine ⟨3 + 1, ?_⟩
  rw [wl_X7_variance_12]
  refine ⟨fun hc => absurd hc (by decide), fun _ => ?_⟩
  rw [show (10 + 0 : Int32) = nI 10 from by decide]
  refine sp_fraction (f := 10) (n := 0) (d := 1) hF (by decide) (by decide) (by decide) (by decide) ?_
  intro pi le sg wo hF
  have z2 : sz (mkRat 0 1) 1 := sz_mkRat (by decide) (by decide) (by decide)
  have hF : FS pi le sg (lk [(0, some (x0)), (2, some (p00)), (6, o6), (7, o7), (8, o8), (9, o9), (10, some (mkRat 0 1)), (12, some (md an ad 6 0 0))]) := FS.sub (by rw [lk_up] at hF; exact hF) ⟨rfl, rfl, rfl, rfl, rfl, rfl, rfl, rfl, trivial⟩
  refine ⟨3 + 1, ?_⟩
  rw [wl_X7_variance_32]
  refine ⟨fun hc => absurd hc (by decide), fun _ => ?_⟩
  refine sp_md (f := 20) (p := 5) (i := 0) (j := 0) hM hF (by decide) (by decide) ?_
  intro pi le sg wo hF
  have z3 : sz (md an ad 5 0 0) 1 := sz_md hM (by decide)
  have hF : FS pi le sg (lk [(0, some (x0)), (2, some (p00)), (6, o6), (7, o7), (8, o8), (9, o9), (10, some (mkRat 0 1)), (12, some (md an ad 6 0 0)), (20, some (md an ad 5 0 0))]) := FS.sub (by rw [lk_up] at hF; exact hF) ⟨rfl, rfl, rfl, rfl, rfl, rfl, rfl, rfl, rfl, trivial⟩
  rw [wp_X7_cov]
  rw [show (2 + 2 * 0 + 0 : Int32) = nI 2 from by decide]
  refine sp_multiply (d := 21) (a := 2) (b := 20) hF (by decide) (by decide) (by decide) (by decide) (by decide) rfl rfl zp00 z3 (by decide) ?_
  intro pi le sg wo hF
  have z4 : sz ((p00) * (md an ad 5 0 0)) 161 := sz_mul zp00 z3
  have hF : FS pi le sg (lk [(0, some (x0)), (2, some (p00)), (6, o6), (7, o7), (8, o8), (9, o9), (10, some (mkRat 0 1)), (12, some (md an ad 6 0 0)), (20, some (md an ad 5 0 0)), (21, some ((p00) * (md an ad 5 0 0)))]) := FS.sub (by rw [lk_up] at hF; exact hF) ⟨rfl, rfl, rfl, rfl, rfl, rfl, rfl, rfl, rfl, rfl, trivial⟩
  rw [show (10 + 0 : Int32) = nI 10 from by decide]
  refine sp_add (d := 10) (a := 10) (b := 21) hF (by decide) (by decide) (by decide) (by decide) rfl rfl z2 z4 (by decide) ?_
  intro pi le sg wo hF
  have z5 : sz ((mkRat 0 1) + ((p00) * (md an ad 5 0 0))) 163 := sz_add z2 z4
  have hF : FS pi le sg (lk [(0, some (x0)), (2, some (p00)), (6, o6), (7, o7), (8, o8), (9, o9), (10, some ((mkRat 0 1) + ((p00) * (md an ad 5 0 0)))), (12, some (md an ad 6 0 0)), (20, some (md an ad 5 0 0)), (21, some ((p00) * (md an ad 5 0 0)))]) := FS.sub (by rw [lk_up] at hF; exact hF) ⟨rfl, rfl, rfl, rfl, rfl, rfl, rfl, rfl, rfl, rfl, trivial⟩
  intro x9 e9
  obtain rfl : x9 = 1 := by rw [e9]; decide
  rw [wl_X7_variance_32]
  refine ⟨fun _ => ?_, fun hc => absurd (by decide) hc⟩
  intro x9 e9
  obtain rfl : x9 = 1 := by rw [e9]; decide
  rw [wl_X7_variance_12]
  refine ⟨fun _ => ?_, fun hc => absurd (by decide) hc⟩
  refine ⟨3 + 1, ?_⟩
  rw [wl_X7_variance_91]
  refine ⟨fun hc => absurd hc (by decide), fun _ => ?_⟩
  refine sp_md (f := 20) (p := 5) (i := 0) (j := 0) hM hF (by decide) (by decide) ?_
  intro pi le sg wo hF
  have z6 : sz (md an ad 5 0 0) 1 := sz_md hM (by decide)
  have hF : FS pi le sg (lk [(0, some (x0)), (2, some (p00)), (6, o6), (7, o7), (8, o8), (9, o9), (10, some ((mkRat 0 1) + ((p00) * (md an ad 5 0 0)))), (12, some (md an ad 6 0 0)), (20, some (md an ad 5 0 0)), (21, some ((p00) * (md an ad 5 0 0)))]) := FS.sub (by rw [lk_up] at hF; exact hF) ⟨rfl, rfl, rfl, rfl, rfl, rfl, rfl, rfl, rfl, rfl, trivial⟩
  rw [show (10 + 0 : Int32) = nI 10 from by decide]
  refine sp_multiply (d := 21) (a := 20) (b := 10) hF (by decide) (by decide) (by decide) (by decide) (by decide) rfl rfl z6 z5 (by decide) ?_
  intro pi le sg wo hF
  have z7 : sz ((md an ad 5 0 0) * ((mkRat 0 1) + ((p00) * (md an ad 5 0 0)))) 164 := sz_mul z6 z5
  have hF : FS pi le sg (lk [(0, some (x0)), (2, some (p00)), (6, o6), (7, o7), (8, o8), (9, o9), (10, some ((mkRat 0 1) + ((p00) * (md an ad 5 0 0)))), (12, some (md an ad 6 0 0)), (20, some (md an ad 5 0 0)), (21, some ((md an ad 5 0 0) * ((mkRat 0 1) + ((p00) * (md an ad 5 0 0)))))]) := FS.sub (by rw [lk_up] at hF; exact hF) ⟨rfl, rfl, rfl, rfl, rfl, rfl, rfl, rfl, rfl, rfl, trivial⟩
  refine sp_add (d := 12) (a := 12) (b := 21) hF (by decide) (by decide) (by decide) (by decide) rfl rfl z1 z7 (by decide) ?_
  intro pi le sg wo hF
  have z8 : sz ((md an ad 6 0 0) + ((md an ad 5 0 0) * ((mkRat 0 1) + ((p00) * (md an ad 5 0 0))))) 166 := sz_add z1 z7
  have hF : FS pi le sg (lk [(0, some (x0)), (2, some (p00)), (6, o6), (7, o7), (8, o8), (9, o9), (10, some ((mkRat 0 1) + ((p00) * (md an ad 5 0 0)))), (12, some ((md an ad 6 0 0) + ((md an ad 5 0 0) * ((mkRat 0 1) + ((p00) * (md an ad 5 0 0)))))), (20, some (md an ad 5 0 0)), (21, some ((md an ad 5 0 0) * ((mkRat 0 1) + ((p00) * (md an ad 5 0 0)))))]) := FS.sub (by rw [lk_up] at hF; exact hF) ⟨rfl, rfl, rfl, rfl, rfl, rfl, rfl, rfl, rfl, rfl, trivial⟩
  intro x9 e9
  obtain rfl : x9 = 1 := by rw [e9]; decide
  rw [wl_X7_variance_91]
  refine ⟨fun _ => ?_, fun hc => absurd (by decide) hc⟩
  have h0 := FS.sg0 (f := 12) hF (by decide) rfl
  have e12 : (12 : Int32).toNatClampNeg = 12 := by decide
  simp only [e12]
  refine ⟨by unfold vp_in; decide, fun hc => ⟨rfl, k0 _ _ _ _ (h0.mp hc) (FS.sub hF ⟨rfl, rfl, rfl, rfl, rfl, rfl, rfl, rfl, trivial⟩)⟩, fun hc => ⟨rfl, k1 _ _ _ _ (fun z => hc (h0.mpr z)) (FS.sub hF ⟨rfl, rfl, rfl, rfl, rfl, rfl, rfl, rfl, trivial⟩)⟩⟩
set_option maxHeartbeats 4000000 in
set_option maxRecDepth 100000 in
theorem sp_doMeasure1 {ab be pi le sg wo : Nat → Int32} {an : Nat → Int} {ad : Nat → Nat} {x0 p00 g0 s : Rat} {o6 o7 o8 o9 : Option Rat} (hM : MD ab be an ad) (hF : FS pi le sg (lk [(0, some (x0)), (2, some (p00)), (6, o6), (7, o7), (8, o8), (9, o9), (10, some (g0)), (12, some (s))])) (zx0 : sz x0 160) (zp00 : sz p00 160) (zg0 : sz g0 160) (zs : sz s 160) (hs0 : s ≠ 0) {zn : Int} {zd : Nat} (hzn : zn.natAbs ≤ 20) (hzd0 : zd ≠ 0) (hzd : zd ≤ 20) {post : (Nat → Int32) → (Nat → Int32) → (Nat → Int32) → (Nat → Int32) → Prop} 
    (k : ∀ pi le sg wo, FS pi le sg (lk [(0, some ((x0) + (((g0) / (s)) * ((mkRat zn zd) - ((md an ad 5 0 0) * (x0)))))), (2, some ((p00) - (((g0) / (s)) * (g0)))), (6, some ((mkRat zn zd) - ((md an ad 5 0 0) * (x0)))), (7, some (s)), (8, some ((g0) / (s))), (9, o9)]) → post pi le sg wo) : wp_X7_doMeasure 1 ab be pi le sg wo (iI zn) (nI zd) post := by
  rw [wp_X7_doMeasure]
  refine sp_same (d := 7) (a := 12) hF (by decide) (by decide) (by decide) rfl ?_
  intro pi le sg hF
  have z1 : sz (s) 160 := zs
  have hF : FS pi le sg (lk [(0, some (x0)), (2, some (p00)), (6, o6), (7, some (s)), (8, o8), (9, o9), (10, some (g0)), (12, some (s))]) := FS.sub (by rw [lk_up] at hF; exact hF) ⟨rfl, rfl, rfl, rfl, rfl, rfl, rfl, rfl, trivial⟩
  refine sp_fraction (f := 6) (n := zn) (d := zd) hF (by decide) (by omega) hzd0 (by omega) ?_
  intro pi le sg wo hF
  have z2 : sz (mkRat zn zd) 1 := sz_mkRat hzd0 (ln_small (by omega)) (ln_small (by omega))
  have hF : FS pi le sg (lk [(0, some (x0)), (2, some (p00)), (6, some (mkRat zn zd)), (7, some (s)), (8, o8), (9, o9), (10, some (g0)), (12, some (s))]) := FS.sub (by rw [lk_up] at hF; exact hF) ⟨rfl, rfl, rfl, rfl, rfl, rfl, rfl, rfl, trivial⟩
  refine ⟨3 + 1, ?_⟩
  rw [wl_X7_doMeasure_18]
  refine ⟨fun hc => absurd hc (by decide), fun _ => ?_⟩
  refine sp_md (f := 20) (p := 5) (i := 0) (j := 0) hM hF (by decide) (by decide) ?_
  intro pi le sg wo hF
  have z3 : sz (md an ad 5 0 0) 1 := sz_md hM (by decide)
  have hF : FS pi le sg (lk [(0, some (x0)), (2, some (p00)), (6, some (mkRat zn zd)), (7, some (s)), (8, o8), (9, o9), (10, some (g0)), (12, some (s)), (20, some (md an ad 5 0 0))]) := FS.sub (by rw [lk_up] at hF; exact hF) ⟨rfl, rfl, rfl, rfl, rfl, rfl, rfl, rfl, rfl, trivial⟩
  refine sp_multiply (d := 21) (a := 20) (b := 0) hF (by decide) (by decide) (by decide) (by decide) (by decide) rfl rfl z3 zx0 (by decide) ?_
  intro pi le sg wo hF
  have z4 : sz ((md an ad 5 0 0) * (x0)) 161 := sz_mul z3 zx0
  have hF : FS pi le sg (lk [(0, some (x0)), (2, some (p00)), (6, some (mkRat zn zd)), (7, some (s)), (8, o8), (9, o9), (10, some (g0)), (12, some (s)), (20, some (md an ad 5 0 0)), (21, some ((md an ad 5 0 0) * (x0)))]) := FS.sub (by rw [lk_up] at hF; exact hF) ⟨rfl, rfl, rfl, rfl, rfl, rfl, rfl, rfl, rfl, rfl, trivial⟩
  refine sp_sub (d := 6) (a := 6) (b := 21) hF (by decide) (by decide) (by decide) (by decide) rfl rfl z2 z4 (by decide) ?_
  intro pi le sg wo hF
  have z5 : sz ((mkRat zn zd) - ((md an ad 5 0 0) * (x0))) 163 := sz_sub z2 z4
  have hF : FS pi le sg (lk [(0, some (x0)), (2, some (p00)), (6, some ((mkRat zn zd) - ((md an ad 5 0 0) * (x0)))), (7, some (s)), (8, o8), (9, o9), (10, some (g0)), (12, some (s)), (20, some (md an ad 5 0 0)), (21, some ((md an ad 5 0 0) * (x0)))]) := FS.sub (by rw [lk_up] at hF; exact hF) ⟨rfl, rfl, rfl, rfl, rfl, rfl, rfl, rfl, rfl, rfl, trivial⟩
  intro x9 e9
  obtain rfl : x9 = 1 := by rw [e9]; decide
  rw [wl_X7_doMeasure_18]
  refine ⟨fun _ => ?_, fun hc => absurd (by decide) hc⟩
  refine ⟨3 + 1, ?_⟩
  rw [wl_X7_doMeasure_63]
  refine ⟨fun hc => absurd hc (by decide), fun _ => ?_⟩
  rw [show (8 + 0 : Int32) = nI 8 from by decide, show (10 + 0 : Int32) = nI 10 from by decide]
  refine sp_quotient (d := 8) (a := 10) (b := 7) hF (by decide) (by decide) (by decide) rfl rfl zg0 z1 (by decide) hs0 ?_
  intro pi le sg wo hF
  have z6 : sz ((g0) / (s)) 320 := sz_div hs0 zg0 z1
  have hF : FS pi le sg (lk [(0, some (x0)), (2, some (p00)), (6, some ((mkRat zn zd) - ((md an ad 5 0 0) * (x0)))), (7, some (s)), (8, some ((g0) / (s))), (9, o9), (10, some (g0)), (12, some (s)), (20, some (md an ad 5 0 0)), (21, some ((md an ad 5 0 0) * (x0)))]) := FS.sub (by rw [lk_up] at hF; exact hF) ⟨rfl, rfl, rfl, rfl, rfl, rfl, rfl, rfl, rfl, rfl, trivial⟩
  refine sp_multiply (d := 21) (a := 8) (b := 6) hF (by decide) (by decide) (by decide) (by decide) (by decide) rfl rfl z6 z5 (by decide) ?_
  intro pi le sg wo hF
  have z7 : sz (((g0) / (s)) * ((mkRat zn zd) - ((md an ad 5 0 0) * (x0)))) 483 := sz_mul z6 z5
  have hF : FS pi le sg (lk [(0, some (x0)), (2, some (p00)), (6, some ((mkRat zn zd) - ((md an ad 5 0 0) * (x0)))), (7, some (s)), (8, some ((g0) / (s))), (9, o9), (10, some (g0)), (12, some (s)), (20, some (md an ad 5 0 0)), (21, some (((g0) / (s)) * ((mkRat zn zd) - ((md an ad 5 0 0) * (x0)))))]) := FS.sub (by rw [lk_up] at hF; exact hF) ⟨rfl, rfl, rfl, rfl, rfl, rfl, rfl, rfl, rfl, rfl, trivial⟩
  refine sp_add (d := 0) (a := 0) (b := 21) hF (by decide) (by decide) (by decide) (by decide) rfl rfl zx0 z7 (by decide) ?_
  intro pi le sg wo hF
  have z8 : sz ((x0) + (((g0) / (s)) * ((mkRat zn zd) - ((md an ad 5 0 0) * (x0))))) 644 := sz_add zx0 z7
  have hF : FS pi le sg (lk [(0, some ((x0) + (((g0) / (s)) * ((mkRat zn zd) - ((md an ad 5 0 0) * (x0)))))), (2, some (p00)), (6, some ((mkRat zn zd) - ((md an ad 5 0 0) * (x0)))), (7, some (s)), (8, some ((g0) / (s))), (9, o9), (10, some (g0)), (12, some (s)), (20, some (md an ad 5 0 0)), (21, some (((g0) / (s)) * ((mkRat zn zd) - ((md an ad 5 0 0) * (x0)))))]) := FS.sub (by rw [lk_up] at hF; exact hF) ⟨rfl, rfl, rfl, rfl, rfl, rfl, rfl, rfl, rfl, rfl, trivial⟩
  intro x9 e9
  obtain rfl : x9 = 1 := by rw [e9]; decide
  rw [wl_X7_doMeasure_63]
  refine ⟨fun _ => ?_, fun hc => absurd (by decide) hc⟩
  refine ⟨3 + 1, ?_⟩
  rw [wl_X7_doMeasure_114]
  refine ⟨fun hc => absurd hc (by decide), fun _ => ?_⟩
  refine ⟨3 + 1, ?_⟩
  rw [wl_X7_doMeasure_125]
  refine ⟨fun hc => absurd hc (by decide), fun _ => ?_⟩
  rw [show (8 + 0 : Int32) = nI 8 from by decide, show (10 + 0 : Int32) = nI 10 from by decide]
  refine sp_multiply (d := 21) (a := 8) (b := 10) hF (by decide) (by decide) (by decide) (by decide) (by decide) rfl rfl z6 zg0 (by decide) ?_
  intro pi le sg wo hF
  have z9 : sz (((g0) / (s)) * (g0)) 480 := sz_mul z6 zg0
  have hF : FS pi le sg (lk [(0, some ((x0) + (((g0) / (s)) * ((mkRat zn zd) - ((md an ad 5 0 0) * (x0)))))), (2, some (p00)), (6, some ((mkRat zn zd) - ((md an ad 5 0 0) * (x0)))), (7, some (s)), (8, some ((g0) / (s))), (9, o9), (10, some (g0)), (12, some (s)), (20, some (md an ad 5 0 0)), (21, some (((g0) / (s)) * (g0)))]) := FS.sub (by rw [lk_up] at hF; exact hF) ⟨rfl, rfl, rfl, rfl, rfl, rfl, rfl, rfl, rfl, rfl, trivial⟩
  rw [wp_X7_cov, wp_X7_cov]
  rw [show (2 + 2 * 0 + 0 : Int32) = nI 2 from by decide]
  refine sp_sub (d := 2) (a := 2) (b := 21) hF (by decide) (by decide) (by decide) (by decide) rfl rfl zp00 z9 (by decide) ?_
  intro pi le sg wo hF
  have z10 : sz ((p00) - (((g0) / (s)) * (g0))) 641 := sz_sub zp00 z9
  have hF : FS pi le sg (lk [(0, some ((x0) + (((g0) / (s)) * ((mkRat zn zd) - ((md an ad 5 0 0) * (x0)))))), (2, some ((p00) - (((g0) / (s)) * (g0)))), (6, some ((mkRat zn zd) - ((md an ad 5 0 0) * (x0)))), (7, some (s)), (8, some ((g0) / (s))), (9, o9), (10, some (g0)), (12, some (s)), (20, some (md an ad 5 0 0)), (21, some (((g0) / (s)) * (g0)))]) := FS.sub (by rw [lk_up] at hF; exact hF) ⟨rfl, rfl, rfl, rfl, rfl, rfl, rfl, rfl, rfl, rfl, trivial⟩
  intro x9 e9
  obtain rfl : x9 = 1 := by rw [e9]; decide
  rw [wl_X7_doMeasure_125]
  refine ⟨fun _ => ?_, fun hc => absurd (by decide) hc⟩
  intro x9 e9
  obtain rfl : x9 = 1 := by rw [e9]; decide
  rw [wl_X7_doMeasure_114]
  refine ⟨fun _ => ?_, fun hc => absurd (by decide) hc⟩
  exact k _ _ _ _ (FS.sub hF ⟨rfl, rfl, rfl, rfl, rfl, rfl, trivial⟩)
set_option maxHeartbeats 4000000 in
set_option maxRecDepth 100000 in
theorem sp_doPredict1 {ab be pi le sg wo : Nat → Int32} {an : Nat → Int} {ad : Nat → Nat} {x0 p00 : Rat} {o6 o7 o8 o9 : Option Rat} (hM : MD ab be an ad) (hF : FS pi le sg (lk [(0, some (x0)), (2, some (p00)), (6, o6), (7, o7), (8, o8), (9, o9)])) (zx0 : sz x0 160) (zp00 : sz p00 160) {post : (Nat → Int32) → (Nat → Int32) → (Nat → Int32) → (Nat → Int32) → Prop} 
    (k : ∀ pi le sg wo, FS pi le sg (lk [(0, some ((md an ad 3 0 0) + ((md an ad 2 0 0) * (x0)))), (2, some ((md an ad 4 0 0) + (((mkRat 0 1) + ((md an ad 2 0 0) * (p00))) * (md an ad 2 0 0)))), (6, o6), (7, o7), (8, o8), (9, o9)]) → post pi le sg wo) : wp_X7_doPredict 1 ab be pi le sg wo post := by
  rw [wp_X7_doPredict]
  refine ⟨3 + 1, ?_⟩
  rw [wl_X7_doPredict_2]
  refine ⟨fun hc => absurd hc (by decide), fun _ => ?_⟩
  refine ⟨3 + 1, ?_⟩
  rw [wl_X7_doPredict_12]
  refine ⟨fun hc => absurd hc (by decide), fun _ => ?_⟩
  rw [show (10 + 2 * 0 + 0 : Int32) = nI 10 from by decide]
  refine sp_fraction (f := 10) (n := 0) (d := 1) hF (by decide) (by decide) (by decide) (by decide) ?_
  intro pi le sg wo hF
  have z1 : sz (mkRat 0 1) 1 := sz_mkRat (by decide) (by decide) (by decide)
  have hF : FS pi le sg (lk [(0, some (x0)), (2, some (p00)), (6, o6), (7, o7), (8, o8), (9, o9), (10, some (mkRat 0 1))]) := FS.sub (by rw [lk_up] at hF; exact hF) ⟨rfl, rfl, rfl, rfl, rfl, rfl, rfl, trivial⟩
  refine ⟨3 + 1, ?_⟩
  rw [wl_X7_doPredict_36]
  refine ⟨fun hc => absurd hc (by decide), fun _ => ?_⟩
  refine sp_md (f := 20) (p := 2) (i := 0) (j := 0) hM hF (by decide) (by decide) ?_
  intro pi le sg wo hF
  have z2 : sz (md an ad 2 0 0) 1 := sz_md hM (by decide)
  have hF : FS pi le sg (lk [(0, some (x0)), (2, some (p00)), (6, o6), (7, o7), (8, o8), (9, o9), (10, some (mkRat 0 1)), (20, some (md an ad 2 0 0))]) := FS.sub (by rw [lk_up] at hF; exact hF) ⟨rfl, rfl, rfl, rfl, rfl, rfl, rfl, rfl, trivial⟩
  rw [wp_X7_cov]
  rw [show (2 + 2 * 0 + 0 : Int32) = nI 2 from by decide]
  refine sp_multiply (d := 21) (a := 20) (b := 2) hF (by decide) (by decide) (by decide) (by decide) (by decide) rfl rfl z2 zp00 (by decide) ?_
  intro pi le sg wo hF
  have z3 : sz ((md an ad 2 0 0) * (p00)) 161 := sz_mul z2 zp00
  have hF : FS pi le sg (lk [(0, some (x0)), (2, some (p00)), (6, o6), (7, o7), (8, o8), (9, o9), (10, some (mkRat 0 1)), (20, some (md an ad 2 0 0)), (21, some ((md an ad 2 0 0) * (p00)))]) := FS.sub (by rw [lk_up] at hF; exact hF) ⟨rfl, rfl, rfl, rfl, rfl, rfl, rfl, rfl, rfl, trivial⟩
  rw [show (10 + 2 * 0 + 0 : Int32) = nI 10 from by decide]
  refine sp_add (d := 10) (a := 10) (b := 21) hF (by decide) (by decide) (by decide) (by decide) rfl rfl z1 z3 (by decide) ?_
  intro pi le sg wo hF
  have z4 : sz ((mkRat 0 1) + ((md an ad 2 0 0) * (p00))) 163 := sz_add z1 z3
  have hF : FS pi le sg (lk [(0, some (x0)), (2, some (p00)), (6, o6), (7, o7), (8, o8), (9, o9), (10, some ((mkRat 0 1) + ((md an ad 2 0 0) * (p00)))), (20, some (md an ad 2 0 0)), (21, some ((md an ad 2 0 0) * (p00)))]) := FS.sub (by rw [lk_up] at hF; exact hF) ⟨rfl, rfl, rfl, rfl, rfl, rfl, rfl, rfl, rfl, trivial⟩
  intro x9 e9
  obtain rfl : x9 = 1 := by rw [e9]; decide
  rw [wl_X7_doPredict_36]
  refine ⟨fun _ => ?_, fun hc => absurd (by decide) hc⟩
  intro x9 e9
  obtain rfl : x9 = 1 := by rw [e9]; decide
  rw [wl_X7_doPredict_12]
  refine ⟨fun _ => ?_, fun hc => absurd (by decide) hc⟩
  intro x9 e9
  obtain rfl : x9 = 1 := by rw [e9]; decide
  rw [wl_X7_doPredict_2]
  refine ⟨fun _ => ?_, fun hc => absurd (by decide) hc⟩
  refine ⟨3 + 1, ?_⟩
  rw [wl_X7_doPredict_109]
  refine ⟨fun hc => absurd hc (by decide), fun _ => ?_⟩
  refine ⟨3 + 1, ?_⟩
  rw [wl_X7_doPredict_119]
  refine ⟨fun hc => absurd hc (by decide), fun _ => ?_⟩
  refine sp_md (f := 14) (p := 4) (i := 0) (j := 0) hM hF (by decide) (by decide) ?_
  intro pi le sg wo hF
  have z5 : sz (md an ad 4 0 0) 1 := sz_md hM (by decide)
  have hF : FS pi le sg (lk [(0, some (x0)), (2, some (p00)), (6, o6), (7, o7), (8, o8), (9, o9), (10, some ((mkRat 0 1) + ((md an ad 2 0 0) * (p00)))), (14, some (md an ad 4 0 0)), (20, some (md an ad 2 0 0)), (21, some ((md an ad 2 0 0) * (p00)))]) := FS.sub (by rw [lk_up] at hF; exact hF) ⟨rfl, rfl, rfl, rfl, rfl, rfl, rfl, rfl, rfl, rfl, trivial⟩
  refine ⟨3 + 1, ?_⟩
  rw [wl_X7_doPredict_138]
  refine ⟨fun hc => absurd hc (by decide), fun _ => ?_⟩
  refine sp_md (f := 20) (p := 2) (i := 0) (j := 0) hM hF (by decide) (by decide) ?_
  intro pi le sg wo hF
  have z6 : sz (md an ad 2 0 0) 1 := sz_md hM (by decide)
  have hF : FS pi le sg (lk [(0, some (x0)), (2, some (p00)), (6, o6), (7, o7), (8, o8), (9, o9), (10, some ((mkRat 0 1) + ((md an ad 2 0 0) * (p00)))), (14, some (md an ad 4 0 0)), (20, some (md an ad 2 0 0)), (21, some ((md an ad 2 0 0) * (p00)))]) := FS.sub (by rw [lk_up] at hF; exact hF) ⟨rfl, rfl, rfl, rfl, rfl, rfl, rfl, rfl, rfl, rfl, trivial⟩
  rw [show (10 + 2 * 0 + 0 : Int32) = nI 10 from by decide]
  refine sp_multiply (d := 21) (a := 10) (b := 20) hF (by decide) (by decide) (by decide) (by decide) (by decide) rfl rfl z4 z6 (by decide) ?_
  intro pi le sg wo hF
  have z7 : sz (((mkRat 0 1) + ((md an ad 2 0 0) * (p00))) * (md an ad 2 0 0)) 164 := sz_mul z4 z6
  have hF : FS pi le sg (lk [(0, some (x0)), (2, some (p00)), (6, o6), (7, o7), (8, o8), (9, o9), (10, some ((mkRat 0 1) + ((md an ad 2 0 0) * (p00)))), (14, some (md an ad 4 0 0)), (20, some (md an ad 2 0 0)), (21, some (((mkRat 0 1) + ((md an ad 2 0 0) * (p00))) * (md an ad 2 0 0)))]) := FS.sub (by rw [lk_up] at hF; exact hF) ⟨rfl, rfl, rfl, rfl, rfl, rfl, rfl, rfl, rfl, rfl, trivial⟩
  refine sp_add (d := 14) (a := 14) (b := 21) hF (by decide) (by decide) (by decide) (by decide) rfl rfl z5 z7 (by decide) ?_
  intro pi le sg wo hF
  have z8 : sz ((md an ad 4 0 0) + (((mkRat 0 1) + ((md an ad 2 0 0) * (p00))) * (md an ad 2 0 0))) 166 := sz_add z5 z7
  have hF : FS pi le sg (lk [(0, some (x0)), (2, some (p00)), (6, o6), (7, o7), (8, o8), (9, o9), (10, some ((mkRat 0 1) + ((md an ad 2 0 0) * (p00)))), (14, some ((md an ad 4 0 0) + (((mkRat 0 1) + ((md an ad 2 0 0) * (p00))) * (md an ad 2 0 0)))), (20, some (md an ad 2 0 0)), (21, some (((mkRat 0 1) + ((md an ad 2 0 0) * (p00))) * (md an ad 2 0 0)))]) := FS.sub (by rw [lk_up] at hF; exact hF) ⟨rfl, rfl, rfl, rfl, rfl, rfl, rfl, rfl, rfl, rfl, trivial⟩
  intro x9 e9
  obtain rfl : x9 = 1 := by rw [e9]; decide
  rw [wl_X7_doPredict_138]
  refine ⟨fun _ => ?_, fun hc => absurd (by decide) hc⟩
  rw [wp_X7_cov]
  rw [show (2 + 2 * 0 + 0 : Int32) = nI 2 from by decide]
  refine sp_same (d := 2) (a := 14) hF (by decide) (by decide) (by decide) rfl ?_
  intro pi le sg hF
  have z9 : sz ((md an ad 4 0 0) + (((mkRat 0 1) + ((md an ad 2 0 0) * (p00))) * (md an ad 2 0 0))) 166 := z8
  have hF : FS pi le sg (lk [(0, some (x0)), (2, some ((md an ad 4 0 0) + (((mkRat 0 1) + ((md an ad 2 0 0) * (p00))) * (md an ad 2 0 0)))), (6, o6), (7, o7), (8, o8), (9, o9), (10, some ((mkRat 0 1) + ((md an ad 2 0 0) * (p00)))), (14, some ((md an ad 4 0 0) + (((mkRat 0 1) + ((md an ad 2 0 0) * (p00))) * (md an ad 2 0 0)))), (20, some (md an ad 2 0 0)), (21, some (((mkRat 0 1) + ((md an ad 2 0 0) * (p00))) * (md an ad 2 0 0)))]) := FS.sub (by rw [lk_up] at hF; exact hF) ⟨rfl, rfl, rfl, rfl, rfl, rfl, rfl, rfl, rfl, rfl, trivial⟩
  intro x9 e9
  obtain rfl : x9 = 1 := by rw [e9]; decide
  rw [wl_X7_doPredict_119]
  refine ⟨fun _ => ?_, fun hc => absurd (by decide) hc⟩
  intro x9 e9
  obtain rfl : x9 = 1 := by rw [e9]; decide
  rw [wl_X7_doPredict_109]
  refine ⟨fun _ => ?_, fun hc => absurd (by decide) hc⟩
  refine ⟨3 + 1, ?_⟩
  rw [wl_X7_doPredict_213]
  refine ⟨fun hc => absurd hc (by decide), fun _ => ?_⟩
  rw [show (10 + 0 : Int32) = nI 10 from by decide]
  refine sp_md (f := 10) (p := 3) (i := 0) (j := 0) hM hF (by decide) (by decide) ?_
  intro pi le sg wo hF
  have z10 : sz (md an ad 3 0 0) 1 := sz_md hM (by decide)
  have hF : FS pi le sg (lk [(0, some (x0)), (2, some ((md an ad 4 0 0) + (((mkRat 0 1) + ((md an ad 2 0 0) * (p00))) * (md an ad 2 0 0)))), (6, o6), (7, o7), (8, o8), (9, o9), (10, some (md an ad 3 0 0)), (14, some ((md an ad 4 0 0) + (((mkRat 0 1) + ((md an ad 2 0 0) * (p00))) * (md an ad 2 0 0)))), (20, some (md an ad 2 0 0)), (21, some (((mkRat 0 1) + ((md an ad 2 0 0) * (p00))) * (md an ad 2 0 0)))]) := FS.sub (by rw [lk_up] at hF; exact hF) ⟨rfl, rfl, rfl, rfl, rfl, rfl, rfl, rfl, rfl, rfl, trivial⟩
  refine ⟨3 + 1, ?_⟩
  rw [wl_X7_doPredict_234]
  refine ⟨fun hc => absurd hc (by decide), fun _ => ?_⟩
  refine sp_md (f := 20) (p := 2) (i := 0) (j := 0) hM hF (by decide) (by decide) ?_
  intro pi le sg wo hF
  have z11 : sz (md an ad 2 0 0) 1 := sz_md hM (by decide)
  have hF : FS pi le sg (lk [(0, some (x0)), (2, some ((md an ad 4 0 0) + (((mkRat 0 1) + ((md an ad 2 0 0) * (p00))) * (md an ad 2 0 0)))), (6, o6), (7, o7), (8, o8), (9, o9), (10, some (md an ad 3 0 0)), (14, some ((md an ad 4 0 0) + (((mkRat 0 1) + ((md an ad 2 0 0) * (p00))) * (md an ad 2 0 0)))), (20, some (md an ad 2 0 0)), (21, some (((mkRat 0 1) + ((md an ad 2 0 0) * (p00))) * (md an ad 2 0 0)))]) := FS.sub (by rw [lk_up] at hF; exact hF) ⟨rfl, rfl, rfl, rfl, rfl, rfl, rfl, rfl, rfl, rfl, trivial⟩
  refine sp_multiply (d := 21) (a := 20) (b := 0) hF (by decide) (by decide) (by decide) (by decide) (by decide) rfl rfl z11 zx0 (by decide) ?_
  intro pi le sg wo hF
  have z12 : sz ((md an ad 2 0 0) * (x0)) 161 := sz_mul z11 zx0
  have hF : FS pi le sg (lk [(0, some (x0)), (2, some ((md an ad 4 0 0) + (((mkRat 0 1) + ((md an ad 2 0 0) * (p00))) * (md an ad 2 0 0)))), (6, o6), (7, o7), (8, o8), (9, o9), (10, some (md an ad 3 0 0)), (14, some ((md an ad 4 0 0) + (((mkRat 0 1) + ((md an ad 2 0 0) * (p00))) * (md an ad 2 0 0)))), (20, some (md an ad 2 0 0)), (21, some ((md an ad 2 0 0) * (x0)))]) := FS.sub (by rw [lk_up] at hF; exact hF) ⟨rfl, rfl, rfl, rfl, rfl, rfl, rfl, rfl, rfl, rfl, trivial⟩
  rw [show (10 + 0 : Int32) = nI 10 from by decide]
  refine sp_add (d := 10) (a := 10) (b := 21) hF (by decide) (by decide) (by decide) (by decide) rfl rfl z10 z12 (by decide) ?_
  intro pi le sg wo hF
  have z13 : sz ((md an ad 3 0 0) + ((md an ad 2 0 0) * (x0))) 163 := sz_add z10 z12
  have hF : FS pi le sg (lk [(0, some (x0)), (2, some ((md an ad 4 0 0) + (((mkRat 0 1) + ((md an ad 2 0 0) * (p00))) * (md an ad 2 0 0)))), (6, o6), (7, o7), (8, o8), (9, o9), (10, some ((md an ad 3 0 0) + ((md an ad 2 0 0) * (x0)))), (14, some ((md an ad 4 0 0) + (((mkRat 0 1) + ((md an ad 2 0 0) * (p00))) * (md an ad 2 0 0)))), (20, some (md an ad 2 0 0)), (21, some ((md an ad 2 0 0) * (x0)))]) := FS.sub (by rw [lk_up] at hF; exact hF) ⟨rfl, rfl, rfl, rfl, rfl, rfl, rfl, rfl, rfl, rfl, trivial⟩
  intro x9 e9
  obtain rfl : x9 = 1 := by rw [e9]; decide
  rw [wl_X7_doPredict_234]
  refine ⟨fun _ => ?_, fun hc => absurd (by decide) hc⟩
  intro x9 e9
  obtain rfl : x9 = 1 := by rw [e9]; decide
  rw [wl_X7_doPredict_213]
  refine ⟨fun _ => ?_, fun hc => absurd (by decide) hc⟩
  refine ⟨3 + 1, ?_⟩
  rw [wl_X7_doPredict_289]
  refine ⟨fun hc => absurd hc (by decide), fun _ => ?_⟩
  rw [show (10 + 0 : Int32) = nI 10 from by decide]
  refine sp_same (d := 0) (a := 10) hF (by decide) (by decide) (by decide) rfl ?_
  intro pi le sg hF
  have z14 : sz ((md an ad 3 0 0) + ((md an ad 2 0 0) * (x0))) 163 := z13
  have hF : FS pi le sg (lk [(0, some ((md an ad 3 0 0) + ((md an ad 2 0 0) * (x0)))), (2, some ((md an ad 4 0 0) + (((mkRat 0 1) + ((md an ad 2 0 0) * (p00))) * (md an ad 2 0 0)))), (6, o6), (7, o7), (8, o8), (9, o9), (10, some ((md an ad 3 0 0) + ((md an ad 2 0 0) * (x0)))), (14, some ((md an ad 4 0 0) + (((mkRat 0 1) + ((md an ad 2 0 0) * (p00))) * (md an ad 2 0 0)))), (20, some (md an ad 2 0 0)), (21, some ((md an ad 2 0 0) * (x0)))]) := FS.sub (by rw [lk_up] at hF; exact hF) ⟨rfl, rfl, rfl, rfl, rfl, rfl, rfl, rfl, rfl, rfl, trivial⟩
  intro x9 e9
  obtain rfl : x9 = 1 := by rw [e9]; decide
  rw [wl_X7_doPredict_289]
  refine ⟨fun _ => ?_, fun hc => absurd (by decide) hc⟩
  exact k _ _ _ _ (FS.sub hF ⟨rfl, rfl, rfl, rfl, rfl, rfl, trivial⟩)
set_option maxHeartbeats 4000000 in
set_option maxRecDepth 100000 in
theorem sp_variance2 {ab be pi le sg wo : Nat → Int32} {an : Nat → Int} {ad : Nat → Nat} {x0 x1 p00 p01 p10 p11 : Rat} {o6 o7 o8 o9 : Option Rat} (hM : MD ab be an ad) (hF : FS pi le sg (lk [(0, some (x0)), (1, some (x1)), (2, some (p00)), (3, some (p01)), (4, some (p10)), (5, some (p11)), (6, o6), (7, o7), (8, o8), (9, o9)])) (zx0 : sz x0 160) (zx1 : sz x1 160) (zp00 : sz p00 160) (zp01 : sz p01 160) (zp10 : sz p10 160) (zp11 : sz p11 160) {post : Int32 → (Nat → Int32) → (Nat → Int32) → (Nat → Int32) → (Nat → Int32) → Prop}
    (k0 : ∀ pi le sg wo, (((md an ad 6 0 0) + ((md an ad 5 0 0) * (((mkRat 0 1) + ((p00) * (md an ad 5 0 0))) + ((p01) * (md an ad 5 1 0))))) + ((md an ad 5 1 0) * (((mkRat 0 1) + ((p10) * (md an ad 5 0 0))) + ((p11) * (md an ad 5 1 0))))) = 0 → FS pi le sg (lk [(0, some (x0)), (1, some (x1)), (2, some (p00)), (3, some (p01)), (4, some (p10)), (5, some (p11)), (6, o6), (7, o7), (8, o8), (9, o9), (10, some (((mkRat 0 1) + ((p00) * (md an ad 5 0 0))) + ((p01) * (md an ad 5 1 0)))), (11, some (((mkRat 0 1) + ((p10) * (md an ad 5 0 0))) + ((p11) * (md an ad 5 1 0)))), (12, some (((md an ad 6 0 0) + ((md an ad 5 0 0) * (((mkRat 0 1) + ((p00) * (md an ad 5 0 0))) + ((p01) * (md an ad 5 1 0))))) + ((md an ad 5 1 0) * (((mkRat 0 1) + ((p10) * (md an ad 5 0 0))) + ((p11) * (md an ad 5 1 0))))))]) → post 0 pi le sg wo)
    (k1 : ∀ pi le sg wo, (((md an ad 6 0 0) + ((md an ad 5 0 0) * (((mkRat 0 1) + ((p00) * (md an ad 5 0 0))) + ((p01) * (md an ad 5 1 0))))) + ((md an ad 5 1 0) * (((mkRat 0 1) + ((p10) * (md an ad 5 0 0))) + ((p11) * (md an ad 5 1 0))))) ≠ 0 → FS pi le sg (lk [(0, some (x0)), (1, some (x1)), (2, some (p00)), (3, some (p01)), (4, some (p10)), (5, some (p11)), (6, o6), (7, o7), (8, o8), (9, o9), (10, some (((mkRat 0 1) + ((p00) * (md an ad 5 0 0))) + ((p01) * (md an ad 5 1 0)))), (11, some (((mkRat 0 1) + ((p10) * (md an ad 5 0 0))) + ((p11) * (md an ad 5 1 0)))), (12, some (((md an ad 6 0 0) + ((md an ad 5 0 0) * (((mkRat 0 1) + ((p00) * (md an ad 5 0 0))) + ((p01) * (md an ad 5 1 0))))) + ((md an ad 5 1 0) * (((mkRat 0 1) + ((p10) * (md an ad 5 0 0))) + ((p11) * (md an ad 5 1 0))))))]) → post 1 pi le sg wo) : wp_X7_variance 2 ab be pi le sg wo post := by
  rw [wp_X7_variance]
  refine sp_md (f := 12) (p := 6) (i := 0) (j := 0) hM hF (by decide) (by decide) ?_
  intro pi le sg wo hF
  have z1 : sz (md an ad 6 0 0) 1 := sz_md hM (by decide)
  have hF : FS pi le sg (lk [(0, some (x0)), (1, some (x1)), (2, some (p00)), (3, some (p01)), (4, some (p10)), (5, some (p11)), (6, o6), (7, o7), (8, o8), (9, o9), (12, some (md an ad 6 0 0))]) := FS.sub (by rw [lk_up] at hF; exact hF) ⟨rfl, rfl, rfl, rfl, rfl, rfl, rfl, rfl, rfl, rfl, rfl, trivial⟩
  refine ⟨3 + 1, ?_⟩
  rw [wl_X7_variance_12]
  refine ⟨fun hc => absurd hc (by decide), fun _ => ?_⟩
  rw [show (10 + 0 : Int32) = nI 10 from by decide]
  refine sp_fraction (f := 10) (n := 0) (d := 1) hF (by decide) (by decide) (by decide) (by decide) ?_
  intro pi le sg wo hF
  have z2 : sz (mkRat 0 1) 1 := sz_mkRat (by decide) (by decide) (by decide)
  have hF : FS pi le sg (lk [(0, some (x0)), (1, some (x1)), (2, some (p00)), (3, some (p01)), (4, some (p10)), (5, some (p11)), (6, o6), (7, o7), (8, o8), (9, o9), (10, some (mkRat 0 1)), (12, some (md an ad 6 0 0))]) := FS.sub (by rw [lk_up] at hF; exact hF) ⟨rfl, rfl, rfl, rfl, rfl, rfl, rfl, rfl, rfl, rfl, rfl, rfl, trivial⟩
  refine ⟨3 + 1, ?_⟩
  rw [wl_X7_variance_32]
  refine ⟨fun hc => absurd hc (by decide), fun _ => ?_⟩
  refine sp_md (f := 20) (p := 5) (i := 0) (j := 0) hM hF (by decide) (by decide) ?_
  intro pi le sg wo hF
  have z3 : sz (md an ad 5 0 0) 1 := sz_md hM (by decide)
  have hF : FS pi le sg (lk [(0, some (x0)), (1, some (x1)), (2, some (p00)), (3, some (p01)), (4, some (p10)), (5, some (p11)), (6, o6), (7, o7), (8, o8), (9, o9), (10, some (mkRat 0 1)), (12, some (md an ad 6 0 0)), (20, some (md an ad 5 0 0))]) := FS.sub (by rw [lk_up] at hF; exact hF) ⟨rfl, rfl, rfl, rfl, rfl, rfl, rfl, rfl, rfl, rfl, rfl, rfl, rfl, trivial⟩
  rw [wp_X7_cov]
  rw [show (2 + 2 * 0 + 0 : Int32) = nI 2 from by decide]
  refine sp_multiply (d := 21) (a := 2) (b := 20) hF (by decide) (by decide) (by decide) (by decide) (by decide) rfl rfl zp00 z3 (by decide) ?_
  intro pi le sg wo hF
  have z4 : sz ((p00) * (md an ad 5 0 0)) 161 := sz_mul zp00 z3
  have hF : FS pi le sg (lk [(0, some (x0)), (1, some (x1)), (2, some (p00)), (3, some (p01)), (4, some (p10)), (5, some (p11)), (6, o6), (7, o7), (8, o8), (9, o9), (10, some (mkRat 0 1)), (12, some (md an ad 6 0 0)), (20, some (md an ad 5 0 0)), (21, some ((p00) * (md an ad 5 0 0)))]) := FS.sub (by rw [lk_up] at hF; exact hF) ⟨rfl, rfl, rfl, rfl, rfl, rfl, rfl, rfl, rfl, rfl, rfl, rfl, rfl, rfl, trivial⟩
  rw [show (10 + 0 : Int32) = nI 10 from by decide]
  refine sp_add (d := 10) (a := 10) (b := 21) hF (by decide) (by decide) (by decide) (by decide) rfl rfl z2 z4 (by decide) ?_
  intro pi le sg wo hF
  have z5 : sz ((mkRat 0 1) + ((p00) * (md an ad 5 0 0))) 163 := sz_add z2 z4
  have hF : FS pi le sg (lk [(0, some (x0)), (1, some (x1)), (2, some (p00)), (3, some (p01)), (4, some (p10)), (5, some (p11)), (6, o6), (7, o7), (8, o8), (9, o9), (10, some ((mkRat 0 1) + ((p00) * (md an ad 5 0 0)))), (12, some (md an ad 6 0 0)), (20, some (md an ad 5 0 0)), (21, some ((p00) * (md an ad 5 0 0)))]) := FS.sub (by rw [lk_up] at hF; exact hF) ⟨rfl, rfl, rfl, rfl, rfl, rfl, rfl, rfl, rfl, rfl, rfl, rfl, rfl, rfl, trivial⟩
  intro x9 e9
  obtain rfl : x9 = 1 := by rw [e9]; decide
  rw [wl_X7_variance_32]
  refine ⟨fun hc => absurd hc (by decide), fun _ => ?_⟩
  refine sp_md (f := 20) (p := 5) (i := 1) (j := 0) hM hF (by decide) (by decide) ?_
  intro pi le sg wo hF
  have z6 : sz (md an ad 5 1 0) 1 := sz_md hM (by decide)
  have hF : FS pi le sg (lk [(0, some (x0)), (1, some (x1)), (2, some (p00)), (3, some (p01)), (4, some (p10)), (5, some (p11)), (6, o6), (7, o7), (8, o8), (9, o9), (10, some ((mkRat 0 1) + ((p00) * (md an ad 5 0 0)))), (12, some (md an ad 6 0 0)), (20, some (md an ad 5 1 0)), (21, some ((p00) * (md an ad 5 0 0)))]) := FS.sub (by rw [lk_up] at hF; exact hF) ⟨rfl, rfl, rfl, rfl, rfl, rfl, rfl, rfl, rfl, rfl, rfl, rfl, rfl, rfl, trivial⟩
  rw [wp_X7_cov]
  rw [show (2 + 2 * 0 + 1 : Int32) = nI 3 from by decide]
  refine sp_multiply (d := 21) (a := 3) (b := 20) hF (by decide) (by decide) (by decide) (by decide) (by decide) rfl rfl zp01 z6 (by decide) ?_
  intro pi le sg wo hF
  have z7 : sz ((p01) * (md an ad 5 1 0)) 161 := sz_mul zp01 z6
  have hF : FS pi le sg (lk [(0, some (x0)), (1, some (x1)), (2, some (p00)), (3, some (p01)), (4, some (p10)), (5, some (p11)), (6, o6), (7, o7), (8, o8), (9, o9), (10, some ((mkRat 0 1) + ((p00) * (md an ad 5 0 0)))), (12, some (md an ad 6 0 0)), (20, some (md an ad 5 1 0)), (21, some ((p01) * (md an ad 5 1 0)))]) := FS.sub (by rw [lk_up] at hF; exact hF) ⟨rfl, rfl, rfl, rfl, rfl, rfl, rfl, rfl, rfl, rfl, rfl, rfl, rfl, rfl, trivial⟩
  rw [show (10 + 0 : Int32) = nI 10 from by decide]
  refine sp_add (d := 10) (a := 10) (b := 21) hF (by decide) (by decide) (by decide) (by decide) rfl rfl z5 z7 (by decide) ?_
  intro pi le sg wo hF
  have z8 : sz (((mkRat 0 1) + ((p00) * (md an ad 5 0 0))) + ((p01) * (md an ad 5 1 0))) 325 := sz_add z5 z7
  have hF : FS pi le sg (lk [(0, some (x0)), (1, some (x1)), (2, some (p00)), (3, some (p01)), (4, some (p10)), (5, some (p11)), (6, o6), (7, o7), (8, o8), (9, o9), (10, some (((mkRat 0 1) + ((p00) * (md an ad 5 0 0))) + ((p01) * (md an ad 5 1 0)))), (12, some (md an ad 6 0 0)), (20, some (md an ad 5 1 0)), (21, some ((p01) * (md an ad 5 1 0)))]) := FS.sub (by rw [lk_up] at hF; exact hF) ⟨rfl, rfl, rfl, rfl, rfl, rfl, rfl, rfl, rfl, rfl, rfl, rfl, rfl, rfl, trivial⟩
  intro x9 e9
  obtain rfl : x9 = 2 := by rw [e9]; decide
  rw [wl_X7_variance_32]
  refine ⟨fun _ => ?_, fun hc => absurd (by decide) hc⟩
  intro x9 e9
  obtain rfl : x9 = 1 := by rw [e9]; decide
  rw [wl_X7_variance_12]
  refine ⟨fun hc => absurd hc (by decide), fun _ => ?_⟩
  rw [show (10 + 1 : Int32) = nI 11 from by decide]
  refine sp_fraction (f := 11) (n := 0) (d := 1) hF (by decide) (by decide) (by decide) (by decide) ?_
  intro pi le sg wo hF
  have z9 : sz (mkRat 0 1) 1 := sz_mkRat (by decide) (by decide) (by decide)
  have hF : FS pi le sg (lk [(0, some (x0)), (1, some (x1)), (2, some (p00)), (3, some (p01)), (4, some (p10)), (5, some (p11)), (6, o6), (7, o7), (8, o8), (9, o9), (10, some (((mkRat 0 1) + ((p00) * (md an ad 5 0 0))) + ((p01) * (md an ad 5 1 0)))), (11, some (mkRat 0 1)), (12, some (md an ad 6 0 0)), (20, some (md an ad 5 1 0)), (21, some ((p01) * (md an ad 5 1 0)))]) := FS.sub (by rw [lk_up] at hF; exact hF) ⟨rfl, rfl, rfl, rfl, rfl, rfl, rfl, rfl, rfl, rfl, rfl, rfl, rfl, rfl, rfl, trivial⟩
  refine ⟨3 + 1, ?_⟩
  rw [wl_X7_variance_32]
  refine ⟨fun hc => absurd hc (by decide), fun _ => ?_⟩
  refine sp_md (f := 20) (p := 5) (i := 0) (j := 0) hM hF (by decide) (by decide) ?_
  intro pi le sg wo hF
  have z10 : sz (md an ad 5 0 0) 1 := sz_md hM (by decide)
  have hF : FS pi le sg (lk [(0, some (x0)), (1, some (x1)), (2, some (p00)), (3, some (p01)), (4, some (p10)), (5, some (p11)), (6, o6), (7, o7), (8, o8), (9, o9), (10, some (((mkRat 0 1) + ((p00) * (md an ad 5 0 0))) + ((p01) * (md an ad 5 1 0)))), (11, some (mkRat 0 1)), (12, some (md an ad 6 0 0)), (20, some (md an ad 5 0 0)), (21, some ((p01) * (md an ad 5 1 0)))]) := FS.sub (by rw [lk_up] at hF; exact hF) ⟨rfl, rfl, rfl, rfl, rfl, rfl, rfl, rfl, rfl, rfl, rfl, rfl, rfl, rfl, rfl, trivial⟩
  rw [wp_X7_cov]
  rw [show (2 + 2 * 1 + 0 : Int32) = nI 4 from by decide]
  refine sp_multiply (d := 21) (a := 4) (b := 20) hF (by decide) (by decide) (by decide) (by decide) (by decide) rfl rfl zp10 z10 (by decide) ?_
  intro pi le sg wo hF
  have z11 : sz ((p10) * (md an ad 5 0 0)) 161 := sz_mul zp10 z10
  have hF : FS pi le sg (lk [(0, some (x0)), (1, some (x1)), (2, some (p00)), (3, some (p01)), (4, some (p10)), (5, some (p11)), (6, o6), (7, o7), (8, o8), (9, o9), (10, some (((mkRat 0 1) + ((p00) * (md an ad 5 0 0))) + ((p01) * (md an ad 5 1 0)))), (11, some (mkRat 0 1)), (12, some (md an ad 6 0 0)), (20, some (md an ad 5 0 0)), (21, some ((p10) * (md an ad 5 0 0)))]) := FS.sub (by rw [lk_up] at hF; exact hF) ⟨rfl, rfl, rfl, rfl, rfl, rfl, rfl, rfl, rfl, rfl, rfl, rfl, rfl, rfl, rfl, trivial⟩
  rw [show (10 + 1 : Int32) = nI 11 from by decide]
  refine sp_add (d := 11) (a := 11) (b := 21) hF (by decide) (by decide) (by decide) (by decide) rfl rfl z9 z11 (by decide) ?_
  intro pi le sg wo hF
  have z12 : sz ((mkRat 0 1) + ((p10) * (md an ad 5 0 0))) 163 := sz_add z9 z11
  have hF : FS pi le sg (lk [(0, some (x0)), (1, some (x1)), (2, some (p00)), (3, some (p01)), (4, some (p10)), (5, some (p11)), (6, o6), (7, o7), (8, o8), (9, o9), (10, some (((mkRat 0 1) + ((p00) * (md an ad 5 0 0))) + ((p01) * (md an ad 5 1 0)))), (11, some ((mkRat 0 1) + ((p10) * (md an ad 5 0 0)))), (12, some (md an ad 6 0 0)), (20, some (md an ad 5 0 0)), (21, some ((p10) * (md an ad 5 0 0)))]) := FS.sub (by rw [lk_up] at hF; exact hF) ⟨rfl, rfl, rfl, rfl, rfl, rfl, rfl, rfl, rfl, rfl, rfl, rfl, rfl, rfl, rfl, trivial⟩
  intro x9 e9
  obtain rfl : x9 = 1 := by rw [e9]; decide
  rw [wl_X7_variance_32]
  refine ⟨fun hc => absurd hc (by decide), fun _ => ?_⟩
  refine sp_md (f := 20) (p := 5) (i := 1) (j := 0) hM hF (by decide) (by decide) ?_
  intro pi le sg wo hF
  have z13 : sz (md an ad 5 1 0) 1 := sz_md hM (by decide)
  have hF : FS pi le sg (lk [(0, some (x0)), (1, some (x1)), (2, some (p00)), (3, some (p01)), (4, some (p10)), (5, some (p11)), (6, o6), (7, o7), (8, o8), (9, o9), (10, some (((mkRat 0 1) + ((p00) * (md an ad 5 0 0))) + ((p01) * (md an ad 5 1 0)))), (11, some ((mkRat 0 1) + ((p10) * (md an ad 5 0 0)))), (12, some (md an ad 6 0 0)), (20, some (md an ad 5 1 0)), (21, some ((p10) * (md an ad 5 0 0)))]) := FS.sub (by rw [lk_up] at hF; exact hF) ⟨rfl, rfl, rfl, rfl, rfl, rfl, rfl, rfl, rfl, rfl, rfl, rfl, rfl, rfl, rfl, trivial⟩
  rw [wp_X7_cov]
  rw [show (2 + 2 * 1 + 1 : Int32) = nI 5 from by decide]
  refine sp_multiply (d := 21) (a := 5) (b := 20) hF (by decide) (by decide) (by decide) (by decide) (by decide) rfl rfl zp11 z13 (by decide) ?_
  intro pi le sg wo hF
  have z14 : sz ((p11) * (md an ad 5 1 0)) 161 := sz_mul zp11 z13
  have hF : FS pi le sg (lk [(0, some (x0)), (1, some (x1)), (2, some (p00)), (3, some (p01)), (4, some (p10)), (5, some (p11)), (6, o6), (7, o7), (8, o8), (9, o9), (10, some (((mkRat 0 1) + ((p00) * (md an ad 5 0 0))) + ((p01) * (md an ad 5 1 0)))), (11, some ((mkRat 0 1) + ((p10) * (md an ad 5 0 0)))), (12, some (md an ad 6 0 0)), (20, some (md an ad 5 1 0)), (21, some ((p11) * (md an ad 5 1 0)))]) := FS.sub (by rw [lk_up] at hF; exact hF) ⟨rfl, rfl, rfl, rfl, rfl, rfl, rfl, rfl, rfl, rfl, rfl, rfl, rfl, rfl, rfl, trivial⟩
  rw [show (10 + 1 : Int32) = nI 11 from by decide]
  refine sp_add (d := 11) (a := 11) (b := 21) hF (by decide) (by decide) (by decide) (by decide) rfl rfl z12 z14 (by decide) ?_
  intro pi le sg wo hF
  have z15 : sz (((mkRat 0 1) + ((p10) * (md an ad 5 0 0))) + ((p11) * (md an ad 5 1 0))) 325 := sz_add z12 z14
  have hF : FS pi le sg (lk [(0, some (x0)), (1, some (x1)), (2, some (p00)), (3, some (p01)), (4, some (p10)), (5, some (p11)), (6, o6), (7, o7), (8, o8), (9, o9), (10, some (((mkRat 0 1) + ((p00) * (md an ad 5 0 0))) + ((p01) * (md an ad 5 1 0)))), (11, some (((mkRat 0 1) + ((p10) * (md an ad 5 0 0))) + ((p11) * (md an ad 5 1 0)))), (12, some (md an ad 6 0 0)), (20, some (md an ad 5 1 0)), (21, some ((p11) * (md an ad 5 1 0)))]) := FS.sub (by rw [lk_up] at hF; exact hF) ⟨rfl, rfl, rfl, rfl, rfl, rfl, rfl, rfl, rfl, rfl, rfl, rfl, rfl, rfl, rfl, trivial⟩
  intro x9 e9
  obtain rfl : x9 = 2 := by rw [e9]; decide
  rw [wl_X7_variance_32]
  refine ⟨fun _ => ?_, fun hc => absurd (by decide) hc⟩
  intro x9 e9
  obtain rfl : x9 = 2 := by rw [e9]; decide
  rw [wl_X7_variance_12]
  refine ⟨fun _ => ?_, fun hc => absurd (by decide) hc⟩
  refine ⟨3 + 1, ?_⟩
  rw [wl_X7_variance_91]
  refine ⟨fun hc => absurd hc (by decide), fun _ => ?_⟩
  refine sp_md (f := 20) (p := 5) (i := 0) (j := 0) hM hF (by decide) (by decide) ?_
  intro pi le sg wo hF
  have z16 : sz (md an ad 5 0 0) 1 := sz_md hM (by decide)
  have hF : FS pi le sg (lk [(0, some (x0)), (1, some (x1)), (2, some (p00)), (3, some (p01)), (4, some (p10)), (5, some (p11)), (6, o6), (7, o7), (8, o8), (9, o9), (10, some (((mkRat 0 1) + ((p00) * (md an ad 5 0 0))) + ((p01) * (md an ad 5 1 0)))), (11, some (((mkRat 0 1) + ((p10) * (md an ad 5 0 0))) + ((p11) * (md an ad 5 1 0)))), (12, some (md an ad 6 0 0)), (20, some (md an ad 5 0 0)), (21, some ((p11) * (md an ad 5 1 0)))]) := FS.sub (by rw [lk_up] at hF; exact hF) ⟨rfl, rfl, rfl, rfl, rfl, rfl, rfl, rfl, rfl, rfl, rfl, rfl, rfl, rfl, rfl, trivial⟩
  rw [show (10 + 0 : Int32) = nI 10 from by decide]
  refine sp_multiply (d := 21) (a := 20) (b := 10) hF (by decide) (by decide) (by decide) (by decide) (by decide) rfl rfl z16 z8 (by decide) ?_
  intro pi le sg wo hF
  have z17 : sz ((md an ad 5 0 0) * (((mkRat 0 1) + ((p00) * (md an ad 5 0 0))) + ((p01) * (md an ad 5 1 0)))) 326 := sz_mul z16 z8
  have hF : FS pi le sg (lk [(0, some (x0)), (1, some (x1)), (2, some (p00)), (3, some (p01)), (4, some (p10)), (5, some (p11)), (6, o6), (7, o7), (8, o8), (9, o9), (10, some (((mkRat 0 1) + ((p00) * (md an ad 5 0 0))) + ((p01) * (md an ad 5 1 0)))), (11, some (((mkRat 0 1) + ((p10) * (md an ad 5 0 0))) + ((p11) * (md an ad 5 1 0)))), (12, some (md an ad 6 0 0)), (20, some (md an ad 5 0 0)), (21, some ((md an ad 5 0 0) * (((mkRat 0 1) + ((p00) * (md an ad 5 0 0))) + ((p01) * (md an ad 5 1 0)))))]) := FS.sub (by rw [lk_up] at hF; exact hF) ⟨rfl, rfl, rfl, rfl, rfl, rfl, rfl, rfl, rfl, rfl, rfl, rfl, rfl, rfl, rfl, trivial⟩
  refine sp_add (d := 12) (a := 12) (b := 21) hF (by decide) (by decide) (by decide) (by decide) rfl rfl z1 z17 (by decide) ?_
  intro pi le sg wo hF
  have z18 : sz ((md an ad 6 0 0) + ((md an ad 5 0 0) * (((mkRat 0 1) + ((p00) * (md an ad 5 0 0))) + ((p01) * (md an ad 5 1 0))))) 328 := sz_add z1 z17
  have hF : FS pi le sg (lk [(0, some (x0)), (1, some (x1)), (2, some (p00)), (3, some (p01)), (4, some (p10)), (5, some (p11)), (6, o6), (7, o7), (8, o8), (9, o9), (10, some (((mkRat 0 1) + ((p00) * (md an ad 5 0 0))) + ((p01) * (md an ad 5 1 0)))), (11, some (((mkRat 0 1) + ((p10) * (md an ad 5 0 0))) + ((p11) * (md an ad 5 1 0)))), (12, some ((md an ad 6 0 0) + ((md an ad 5 0 0) * (((mkRat 0 1) + ((p00) * (md an ad 5 0 0))) + ((p01) * (md an ad 5 1 0)))))), (20, some (md an ad 5 0 0)), (21, some ((md an ad 5 0 0) * (((mkRat 0 1) + ((p00) * (md an ad 5 0 0))) + ((p01) * (md an ad 5 1 0)))))]) := FS.sub (by rw [lk_up] at hF; exact hF) ⟨rfl, rfl, rfl, rfl, rfl, rfl, rfl, rfl, rfl, rfl, rfl, rfl, rfl, rfl, rfl, trivial⟩
  intro x9 e9
  obtain rfl : x9 = 1 := by rw [e9]; decide
  rw [wl_X7_variance_91]
  refine ⟨fun hc => absurd hc (by decide), fun _ => ?_⟩
  refine sp_md (f := 20) (p := 5) (i := 1) (j := 0) hM hF (by decide) (by decide) ?_
  intro pi le sg wo hF
  have z19 : sz (md an ad 5 1 0) 1 := sz_md hM (by decide)
  have hF : FS pi le sg (lk [(0, some (x0)), (1, some (x1)), (2, some (p00)), (3, some (p01)), (4, some (p10)), (5, some (p11)), (6, o6), (7, o7), (8, o8), (9, o9), (10, some (((mkRat 0 1) + ((p00) * (md an ad 5 0 0))) + ((p01) * (md an ad 5 1 0)))), (11, some (((mkRat 0 1) + ((p10) * (md an ad 5 0 0))) + ((p11) * (md an ad 5 1 0)))), (12, some ((md an ad 6 0 0) + ((md an ad 5 0 0) * (((mkRat 0 1) + ((p00) * (md an ad 5 0 0))) + ((p01) * (md an ad 5 1 0)))))), (20, some (md an ad 5 1 0)), (21, some ((md an ad 5 0 0) * (((mkRat 0 1) + ((p00) * (md an ad 5 0 0))) + ((p01) * (md an ad 5 1 0)))))]) := FS.sub (by rw [lk_up] at hF; exact hF) ⟨rfl, rfl, rfl, rfl, rfl, rfl, rfl, rfl, rfl, rfl, rfl, rfl, rfl, rfl, rfl, trivial⟩
  rw [show (10 + 1 : Int32) = nI 11 from by decide]
  refine sp_multiply (d := 21) (a := 20) (b := 11) hF (by decide) (by decide) (by decide) (by decide) (by decide) rfl rfl z19 z15 (by decide) ?_
  intro pi le sg wo hF
  have z20 : sz ((md an ad 5 1 0) * (((mkRat 0 1) + ((p10) * (md an ad 5 0 0))) + ((p11) * (md an ad 5 1 0)))) 326 := sz_mul z19 z15
  have hF : FS pi le sg (lk [(0, some (x0)), (1, some (x1)), (2, some (p00)), (3, some (p01)), (4, some (p10)), (5, some (p11)), (6, o6), (7, o7), (8, o8), (9, o9), (10, some (((mkRat 0 1) + ((p00) * (md an ad 5 0 0))) + ((p01) * (md an ad 5 1 0)))), (11, some (((mkRat 0 1) + ((p10) * (md an ad 5 0 0))) + ((p11) * (md an ad 5 1 0)))), (12, some ((md an ad 6 0 0) + ((md an ad 5 0 0) * (((mkRat 0 1) + ((p00) * (md an ad 5 0 0))) + ((p01) * (md an ad 5 1 0)))))), (20, some (md an ad 5 1 0)), (21, some ((md an ad 5 1 0) * (((mkRat 0 1) + ((p10) * (md an ad 5 0 0))) + ((p11) * (md an ad 5 1 0)))))]) := FS.sub (by rw [lk_up] at hF; exact hF) ⟨rfl, rfl, rfl, rfl, rfl, rfl, rfl, rfl, rfl, rfl, rfl, rfl, rfl, rfl, rfl, trivial⟩
  refine sp_add (d := 12) (a := 12) (b := 21) hF (by decide) (by decide) (by decide) (by decide) rfl rfl z18 z20 (by decide) ?_
  intro pi le sg wo hF
  have z21 : sz (((md an ad 6 0 0) + ((md an ad 5 0 0) * (((mkRat 0 1) + ((p00) * (md an ad 5 0 0))) + ((p01) * (md an ad 5 1 0))))) + ((md an ad 5 1 0) * (((mkRat 0 1) + ((p10) * (md an ad 5 0 0))) + ((p11) * (md an ad 5 1 0))))) 655 := sz_add z18 z20
  have hF : FS pi le sg (lk [(0, some (x0)), (1, some (x1)), (2, some (p00)), (3, some (p01)), (4, some (p10)), (5, some (p11)), (6, o6), (7, o7), (8, o8), (9, o9), (10, some (((mkRat 0 1) + ((p00) * (md an ad 5 0 0))) + ((p01) * (md an ad 5 1 0)))), (11, some (((mkRat 0 1) + ((p10) * (md an ad 5 0 0))) + ((p11) * (md an ad 5 1 0)))), (12, some (((md an ad 6 0 0) + ((md an ad 5 0 0) * (((mkRat 0 1) + ((p00) * (md an ad 5 0 0))) + ((p01) * (md an ad 5 1 0))))) + ((md an ad 5 1 0) * (((mkRat 0 1) + ((p10) * (md an ad 5 0 0))) + ((p11) * (md an ad 5 1 0)))))), (20, some (md an ad 5 1 0)), (21, some ((md an ad 5 1 0) * (((mkRat 0 1) + ((p10) * (md an ad 5 0 0))) + ((p11) * (md an ad 5 1 0)))))]) := FS.sub (by rw [lk_up] at hF; exact hF) ⟨rfl, rfl, rfl, rfl, rfl, rfl, rfl, rfl, rfl, rfl, rfl, rfl, rfl, rfl, rfl, trivial⟩
  intro x9 e9
  obtain rfl : x9 = 2 := by rw [e9]; decide
  rw [wl_X7_variance_91]
  refine ⟨fun _ => ?_, fun hc => absurd (by decide) hc⟩
  have h0 := FS.sg0 (f := 12) hF (by decide) rfl
  have e12 : (12 : Int32).toNatClampNeg = 12 := by decide
  simp only [e12]
  refine ⟨by unfold vp_in; decide, fun hc => ⟨rfl, k0 _ _ _ _ (h0.mp hc) (FS.sub hF ⟨rfl, rfl, rfl, rfl, rfl, rfl, rfl, rfl, rfl, rfl, rfl, rfl, rfl, trivial⟩)⟩, fun hc => ⟨rfl, k1 _ _ _ _ (fun z => hc (h0.mpr z)) (FS.sub hF ⟨rfl, rfl, rfl, rfl, rfl, rfl, rfl, rfl, rfl, rfl, rfl, rfl, rfl, trivial⟩)⟩⟩
set_option maxHeartbeats 4000000 in
set_option maxRecDepth 100000 in
theorem sp_doMeasure2 {ab be pi le sg wo : Nat → Int32} {an : Nat → Int} {ad : Nat → Nat} {x0 x1 p00 p01 p10 p11 g0 g1 s : Rat} {o6 o7 o8 o9 : Option Rat} (hM : MD ab be an ad) (hF : FS pi le sg (lk [(0, some (x0)), (1, some (x1)), (2, some (p00)), (3, some (p01)), (4, some (p10)), (5, some (p11)), (6, o6), (7, o7), (8, o8), (9, o9), (10, some (g0)), (11, some (g1)), (12, some (s))])) (zx0 : sz x0 160) (zx1 : sz x1 160) (zp00 : sz p00 160) (zp01 : sz p01 160) (zp10 : sz p10 160) (zp11 : sz p11 160) (zg0 : sz g0 160) (zg1 : sz g1 160) (zs : sz s 160) (hs0 : s ≠ 0) {zn : Int} {zd : Nat} (hzn : zn.natAbs ≤ 20) (hzd0 : zd ≠ 0) (hzd : zd ≤ 20) {post : (Nat → Int32) → (Nat → Int32) → (Nat → Int32) → (Nat → Int32) → Prop} 
    (k : ∀ pi le sg wo, FS pi le sg (lk [(0, some ((x0) + (((g0) / (s)) * (((mkRat zn zd) - ((md an ad 5 0 0) * (x0))) - ((md an ad 5 1 0) * (x1)))))), (1, some ((x1) + (((g1) / (s)) * (((mkRat zn zd) - ((md an ad 5 0 0) * (x0))) - ((md an ad 5 1 0) * (x1)))))), (2, some ((p00) - (((g0) / (s)) * (g0)))), (3, some ((p01) - (((g0) / (s)) * (g1)))), (4, some ((p10) - (((g1) / (s)) * (g0)))), (5, some ((p11) - (((g1) / (s)) * (g1)))), (6, some (((mkRat zn zd) - ((md an ad 5 0 0) * (x0))) - ((md an ad 5 1 0) * (x1)))), (7, some (s)), (8, some ((g0) / (s))), (9, some ((g1) / (s)))]) → post pi le sg wo) : wp_X7_doMeasure 2 ab be pi le sg wo (iI zn) (nI zd) post := by
  rw [wp_X7_doMeasure]
  refine sp_same (d := 7) (a := 12) hF (by decide) (by decide) (by decide) rfl ?_
  intro pi le sg hF
  have z1 : sz (s) 160 := zs
  have hF : FS pi le sg (lk [(0, some (x0)), (1, some (x1)), (2, some (p00)), (3, some (p01)), (4, some (p10)), (5, some (p11)), (6, o6), (7, some (s)), (8, o8), (9, o9), (10, some (g0)), (11, some (g1)), (12, some (s))]) := FS.sub (by rw [lk_up] at hF; exact hF) ⟨rfl, rfl, rfl, rfl, rfl, rfl, rfl, rfl, rfl, rfl, rfl, rfl, rfl, trivial⟩
  refine sp_fraction (f := 6) (n := zn) (d := zd) hF (by decide) (by omega) hzd0 (by omega) ?_
  intro pi le sg wo hF
  have z2 : sz (mkRat zn zd) 1 := sz_mkRat hzd0 (ln_small (by omega)) (ln_small (by omega))
  have hF : FS pi le sg (lk [(0, some (x0)), (1, some (x1)), (2, some (p00)), (3, some (p01)), (4, some (p10)), (5, some (p11)), (6, some (mkRat zn zd)), (7, some (s)), (8, o8), (9, o9), (10, some (g0)), (11, some (g1)), (12, some (s))]) := FS.sub (by rw [lk_up] at hF; exact hF) ⟨rfl, rfl, rfl, rfl, rfl, rfl, rfl, rfl, rfl, rfl, rfl, rfl, rfl, trivial⟩
  refine ⟨3 + 1, ?_⟩
  rw [wl_X7_doMeasure_18]
  refine ⟨fun hc => absurd hc (by decide), fun _ => ?_⟩
  refine sp_md (f := 20) (p := 5) (i := 0) (j := 0) hM hF (by decide) (by decide) ?_
  intro pi le sg wo hF
  have z3 : sz (md an ad 5 0 0) 1 := sz_md hM (by decide)
  have hF : FS pi le sg (lk [(0, some (x0)), (1, some (x1)), (2, some (p00)), (3, some (p01)), (4, some (p10)), (5, some (p11)), (6, some (mkRat zn zd)), (7, some (s)), (8, o8), (9, o9), (10, some (g0)), (11, some (g1)), (12, some (s)), (20, some (md an ad 5 0 0))]) := FS.sub (by rw [lk_up] at hF; exact hF) ⟨rfl, rfl, rfl, rfl, rfl, rfl, rfl, rfl, rfl, rfl, rfl, rfl, rfl, rfl, trivial⟩
  refine sp_multiply (d := 21) (a := 20) (b := 0) hF (by decide) (by decide) (by decide) (by decide) (by decide) rfl rfl z3 zx0 (by decide) ?_
  intro pi le sg wo hF
  have z4 : sz ((md an ad 5 0 0) * (x0)) 161 := sz_mul z3 zx0
  have hF : FS pi le sg (lk [(0, some (x0)), (1, some (x1)), (2, some (p00)), (3, some (p01)), (4, some (p10)), (5, some (p11)), (6, some (mkRat zn zd)), (7, some (s)), (8, o8), (9, o9), (10, some (g0)), (11, some (g1)), (12, some (s)), (20, some (md an ad 5 0 0)), (21, some ((md an ad 5 0 0) * (x0)))]) := FS.sub (by rw [lk_up] at hF; exact hF) ⟨rfl, rfl, rfl, rfl, rfl, rfl, rfl, rfl, rfl, rfl, rfl, rfl, rfl, rfl, rfl, trivial⟩
  refine sp_sub (d := 6) (a := 6) (b := 21) hF (by decide) (by decide) (by decide) (by decide) rfl rfl z2 z4 (by decide) ?_
  intro pi le sg wo hF
  have z5 : sz ((mkRat zn zd) - ((md an ad 5 0 0) * (x0))) 163 := sz_sub z2 z4
  have hF : FS pi le sg (lk [(0, some (x0)), (1, some (x1)), (2, some (p00)), (3, some (p01)), (4, some (p10)), (5, some (p11)), (6, some ((mkRat zn zd) - ((md an ad 5 0 0) * (x0)))), (7, some (s)), (8, o8), (9, o9), (10, some (g0)), (11, some (g1)), (12, some (s)), (20, some (md an ad 5 0 0)), (21, some ((md an ad 5 0 0) * (x0)))]) := FS.sub (by rw [lk_up] at hF; exact hF) ⟨rfl, rfl, rfl, rfl, rfl, rfl, rfl, rfl, rfl, rfl, rfl, rfl, rfl, rfl, rfl, trivial⟩
  intro x9 e9
  obtain rfl : x9 = 1 := by rw [e9]; decide
  rw [wl_X7_doMeasure_18]
  refine ⟨fun hc => absurd hc (by decide), fun _ => ?_⟩
  refine sp_md (f := 20) (p := 5) (i := 1) (j := 0) hM hF (by decide) (by decide) ?_
  intro pi le sg wo hF
  have z6 : sz (md an ad 5 1 0) 1 := sz_md hM (by decide)
  have hF : FS pi le sg (lk [(0, some (x0)), (1, some (x1)), (2, some (p00)), (3, some (p01)), (4, some (p10)), (5, some (p11)), (6, some ((mkRat zn zd) - ((md an ad 5 0 0) * (x0)))), (7, some (s)), (8, o8), (9, o9), (10, some (g0)), (11, some (g1)), (12, some (s)), (20, some (md an ad 5 1 0)), (21, some ((md an ad 5 0 0) * (x0)))]) := FS.sub (by rw [lk_up] at hF; exact hF) ⟨rfl, rfl, rfl, rfl, rfl, rfl, rfl, rfl, rfl, rfl, rfl, rfl, rfl, rfl, rfl, trivial⟩
  refine sp_multiply (d := 21) (a := 20) (b := 1) hF (by decide) (by decide) (by decide) (by decide) (by decide) rfl rfl z6 zx1 (by decide) ?_
  intro pi le sg wo hF
  have z7 : sz ((md an ad 5 1 0) * (x1)) 161 := sz_mul z6 zx1
  have hF : FS pi le sg (lk [(0, some (x0)), (1, some (x1)), (2, some (p00)), (3, some (p01)), (4, some (p10)), (5, some (p11)), (6, some ((mkRat zn zd) - ((md an ad 5 0 0) * (x0)))), (7, some (s)), (8, o8), (9, o9), (10, some (g0)), (11, some (g1)), (12, some (s)), (20, some (md an ad 5 1 0)), (21, some ((md an ad 5 1 0) * (x1)))]) := FS.sub (by rw [lk_up] at hF; exact hF) ⟨rfl, rfl, rfl, rfl, rfl, rfl, rfl, rfl, rfl, rfl, rfl, rfl, rfl, rfl, rfl, trivial⟩
  refine sp_sub (d := 6) (a := 6) (b := 21) hF (by decide) (by decide) (by decide) (by decide) rfl rfl z5 z7 (by decide) ?_
  intro pi le sg wo hF
  have z8 : sz (((mkRat zn zd) - ((md an ad 5 0 0) * (x0))) - ((md an ad 5 1 0) * (x1))) 325 := sz_sub z5 z7
  have hF : FS pi le sg (lk [(0, some (x0)), (1, some (x1)), (2, some (p00)), (3, some (p01)), (4, some (p10)), (5, some (p11)), (6, some (((mkRat zn zd) - ((md an ad 5 0 0) * (x0))) - ((md an ad 5 1 0) * (x1)))), (7, some (s)), (8, o8), (9, o9), (10, some (g0)), (11, some (g1)), (12, some (s)), (20, some (md an ad 5 1 0)), (21, some ((md an ad 5 1 0) * (x1)))]) := FS.sub (by rw [lk_up] at hF; exact hF) ⟨rfl, rfl, rfl, rfl, rfl, rfl, rfl, rfl, rfl, rfl, rfl, rfl, rfl, rfl, rfl, trivial⟩
  intro x9 e9
  obtain rfl : x9 = 2 := by rw [e9]; decide
  rw [wl_X7_doMeasure_18]
  refine ⟨fun _ => ?_, fun hc => absurd (by decide) hc⟩
  refine ⟨3 + 1, ?_⟩
  rw [wl_X7_doMeasure_63]
  refine ⟨fun hc => absurd hc (by decide), fun _ => ?_⟩
  rw [show (8 + 0 : Int32) = nI 8 from by decide, show (10 + 0 : Int32) = nI 10 from by decide]
  refine sp_quotient (d := 8) (a := 10) (b := 7) hF (by decide) (by decide) (by decide) rfl rfl zg0 z1 (by decide) hs0 ?_
  intro pi le sg wo hF
  have z9 : sz ((g0) / (s)) 320 := sz_div hs0 zg0 z1
  have hF : FS pi le sg (lk [(0, some (x0)), (1, some (x1)), (2, some (p00)), (3, some (p01)), (4, some (p10)), (5, some (p11)), (6, some (((mkRat zn zd) - ((md an ad 5 0 0) * (x0))) - ((md an ad 5 1 0) * (x1)))), (7, some (s)), (8, some ((g0) / (s))), (9, o9), (10, some (g0)), (11, some (g1)), (12, some (s)), (20, some (md an ad 5 1 0)), (21, some ((md an ad 5 1 0) * (x1)))]) := FS.sub (by rw [lk_up] at hF; exact hF) ⟨rfl, rfl, rfl, rfl, rfl, rfl, rfl, rfl, rfl, rfl, rfl, rfl, rfl, rfl, rfl, trivial⟩
  refine sp_multiply (d := 21) (a := 8) (b := 6) hF (by decide) (by decide) (by decide) (by decide) (by decide) rfl rfl z9 z8 (by decide) ?_
  intro pi le sg wo hF
  have z10 : sz (((g0) / (s)) * (((mkRat zn zd) - ((md an ad 5 0 0) * (x0))) - ((md an ad 5 1 0) * (x1)))) 645 := sz_mul z9 z8
  have hF : FS pi le sg (lk [(0, some (x0)), (1, some (x1)), (2, some (p00)), (3, some (p01)), (4, some (p10)), (5, some (p11)), (6, some (((mkRat zn zd) - ((md an ad 5 0 0) * (x0))) - ((md an ad 5 1 0) * (x1)))), (7, some (s)), (8, some ((g0) / (s))), (9, o9), (10, some (g0)), (11, some (g1)), (12, some (s)), (20, some (md an ad 5 1 0)), (21, some (((g0) / (s)) * (((mkRat zn zd) - ((md an ad 5 0 0) * (x0))) - ((md an ad 5 1 0) * (x1)))))]) := FS.sub (by rw [lk_up] at hF; exact hF) ⟨rfl, rfl, rfl, rfl, rfl, rfl, rfl, rfl, rfl, rfl, rfl, rfl, rfl, rfl, rfl, trivial⟩
  refine sp_add (d := 0) (a := 0) (b := 21) hF (by decide) (by decide) (by decide) (by decide) rfl rfl zx0 z10 (by decide) ?_
  intro pi le sg wo hF
  have z11 : sz ((x0) + (((g0) / (s)) * (((mkRat zn zd) - ((md an ad 5 0 0) * (x0))) - ((md an ad 5 1 0) * (x1))))) 806 := sz_add zx0 z10
  have hF : FS pi le sg (lk [(0, some ((x0) + (((g0) / (s)) * (((mkRat zn zd) - ((md an ad 5 0 0) * (x0))) - ((md an ad 5 1 0) * (x1)))))), (1, some (x1)), (2, some (p00)), (3, some (p01)), (4, some (p10)), (5, some (p11)), (6, some (((mkRat zn zd) - ((md an ad 5 0 0) * (x0))) - ((md an ad 5 1 0) * (x1)))), (7, some (s)), (8, some ((g0) / (s))), (9, o9), (10, some (g0)), (11, some (g1)), (12, some (s)), (20, some (md an ad 5 1 0)), (21, some (((g0) / (s)) * (((mkRat zn zd) - ((md an ad 5 0 0) * (x0))) - ((md an ad 5 1 0) * (x1)))))]) := FS.sub (by rw [lk_up] at hF; exact hF) ⟨rfl, rfl, rfl, rfl, rfl, rfl, rfl, rfl, rfl, rfl, rfl, rfl, rfl, rfl, rfl, trivial⟩
  intro x9 e9
  obtain rfl : x9 = 1 := by rw [e9]; decide
  rw [wl_X7_doMeasure_63]
  refine ⟨fun hc => absurd hc (by decide), fun _ => ?_⟩
  rw [show (8 + 1 : Int32) = nI 9 from by decide, show (10 + 1 : Int32) = nI 11 from by decide]
  refine sp_quotient (d := 9) (a := 11) (b := 7) hF (by decide) (by decide) (by decide) rfl rfl zg1 z1 (by decide) hs0 ?_
  intro pi le sg wo hF
  have z12 : sz ((g1) / (s)) 320 := sz_div hs0 zg1 z1
  have hF : FS pi le sg (lk [(0, some ((x0) + (((g0) / (s)) * (((mkRat zn zd) - ((md an ad 5 0 0) * (x0))) - ((md an ad 5 1 0) * (x1)))))), (1, some (x1)), (2, some (p00)), (3, some (p01)), (4, some (p10)), (5, some (p11)), (6, some (((mkRat zn zd) - ((md an ad 5 0 0) * (x0))) - ((md an ad 5 1 0) * (x1)))), (7, some (s)), (8, some ((g0) / (s))), (9, some ((g1) / (s))), (10, some (g0)), (11, some (g1)), (12, some (s)), (20, some (md an ad 5 1 0)), (21, some (((g0) / (s)) * (((mkRat zn zd) - ((md an ad 5 0 0) * (x0))) - ((md an ad 5 1 0) * (x1)))))]) := FS.sub (by rw [lk_up] at hF; exact hF) ⟨rfl, rfl, rfl, rfl, rfl, rfl, rfl, rfl, rfl, rfl, rfl, rfl, rfl, rfl, rfl, trivial⟩
  refine sp_multiply (d := 21) (a := 9) (b := 6) hF (by decide) (by decide) (by decide) (by decide) (by decide) rfl rfl z12 z8 (by decide) ?_
  intro pi le sg wo hF
  have z13 : sz (((g1) / (s)) * (((mkRat zn zd) - ((md an ad 5 0 0) * (x0))) - ((md an ad 5 1 0) * (x1)))) 645 := sz_mul z12 z8
  have hF : FS pi le sg (lk [(0, some ((x0) + (((g0) / (s)) * (((mkRat zn zd) - ((md an ad 5 0 0) * (x0))) - ((md an ad 5 1 0) * (x1)))))), (1, some (x1)), (2, some (p00)), (3, some (p01)), (4, some (p10)), (5, some (p11)), (6, some (((mkRat zn zd) - ((md an ad 5 0 0) * (x0))) - ((md an ad 5 1 0) * (x1)))), (7, some (s)), (8, some ((g0) / (s))), (9, some ((g1) / (s))), (10, some (g0)), (11, some (g1)), (12, some (s)), (20, some (md an ad 5 1 0)), (21, some (((g1) / (s)) * (((mkRat zn zd) - ((md an ad 5 0 0) * (x0))) - ((md an ad 5 1 0) * (x1)))))]) := FS.sub (by rw [lk_up] at hF; exact hF) ⟨rfl, rfl, rfl, rfl, rfl, rfl, rfl, rfl, rfl, rfl, rfl, rfl, rfl, rfl, rfl, trivial⟩
  refine sp_add (d := 1) (a := 1) (b := 21) hF (by decide) (by decide) (by decide) (by decide) rfl rfl zx1 z13 (by decide) ?_
  intro pi le sg wo hF
  have z14 : sz ((x1) + (((g1) / (s)) * (((mkRat zn zd) - ((md an ad 5 0 0) * (x0))) - ((md an ad 5 1 0) * (x1))))) 806 := sz_add zx1 z13
  have hF : FS pi le sg (lk [(0, some ((x0) + (((g0) / (s)) * (((mkRat zn zd) - ((md an ad 5 0 0) * (x0))) - ((md an ad 5 1 0) * (x1)))))), (1, some ((x1) + (((g1) / (s)) * (((mkRat zn zd) - ((md an ad 5 0 0) * (x0))) - ((md an ad 5 1 0) * (x1)))))), (2, some (p00)), (3, some (p01)), (4, some (p10)), (5, some (p11)), (6, some (((mkRat zn zd) - ((md an ad 5 0 0) * (x0))) - ((md an ad 5 1 0) * (x1)))), (7, some (s)), (8, some ((g0) / (s))), (9, some ((g1) / (s))), (10, some (g0)), (11, some (g1)), (12, some (s)), (20, some (md an ad 5 1 0)), (21, some (((g1) / (s)) * (((mkRat zn zd) - ((md an ad 5 0 0) * (x0))) - ((md an ad 5 1 0) * (x1)))))]) := FS.sub (by rw [lk_up] at hF; exact hF) ⟨rfl, rfl, rfl, rfl, rfl, rfl, rfl, rfl, rfl, rfl, rfl, rfl, rfl, rfl, rfl, trivial⟩
  intro x9 e9
  obtain rfl : x9 = 2 := by rw [e9]; decide
  rw [wl_X7_doMeasure_63]
  refine ⟨fun _ => ?_, fun hc => absurd (by decide) hc⟩
  refine ⟨3 + 1, ?_⟩
  rw [wl_X7_doMeasure_114]
  refine ⟨fun hc => absurd hc (by decide), fun _ => ?_⟩
  refine ⟨3 + 1, ?_⟩
  rw [wl_X7_doMeasure_125]
  refine ⟨fun hc => absurd hc (by decide), fun _ => ?_⟩
  rw [show (8 + 0 : Int32) = nI 8 from by decide, show (10 + 0 : Int32) = nI 10 from by decide]
  refine sp_multiply (d := 21) (a := 8) (b := 10) hF (by decide) (by decide) (by decide) (by decide) (by decide) rfl rfl z9 zg0 (by decide) ?_
  intro pi le sg wo hF
  have z15 : sz (((g0) / (s)) * (g0)) 480 := sz_mul z9 zg0
  have hF : FS pi le sg (lk [(0, some ((x0) + (((g0) / (s)) * (((mkRat zn zd) - ((md an ad 5 0 0) * (x0))) - ((md an ad 5 1 0) * (x1)))))), (1, some ((x1) + (((g1) / (s)) * (((mkRat zn zd) - ((md an ad 5 0 0) * (x0))) - ((md an ad 5 1 0) * (x1)))))), (2, some (p00)), (3, some (p01)), (4, some (p10)), (5, some (p11)), (6, some (((mkRat zn zd) - ((md an ad 5 0 0) * (x0))) - ((md an ad 5 1 0) * (x1)))), (7, some (s)), (8, some ((g0) / (s))), (9, some ((g1) / (s))), (10, some (g0)), (11, some (g1)), (12, some (s)), (20, some (md an ad 5 1 0)), (21, some (((g0) / (s)) * (g0)))]) := FS.sub (by rw [lk_up] at hF; exact hF) ⟨rfl, rfl, rfl, rfl, rfl, rfl, rfl, rfl, rfl, rfl, rfl, rfl, rfl, rfl, rfl, trivial⟩
  rw [wp_X7_cov, wp_X7_cov]
  rw [show (2 + 2 * 0 + 0 : Int32) = nI 2 from by decide]
  refine sp_sub (d := 2) (a := 2) (b := 21) hF (by decide) (by decide) (by decide) (by decide) rfl rfl zp00 z15 (by decide) ?_
  intro pi le sg wo hF
  have z16 : sz ((p00) - (((g0) / (s)) * (g0))) 641 := sz_sub zp00 z15
  have hF : FS pi le sg (lk [(0, some ((x0) + (((g0) / (s)) * (((mkRat zn zd) - ((md an ad 5 0 0) * (x0))) - ((md an ad 5 1 0) * (x1)))))), (1, some ((x1) + (((g1) / (s)) * (((mkRat zn zd) - ((md an ad 5 0 0) * (x0))) - ((md an ad 5 1 0) * (x1)))))), (2, some ((p00) - (((g0) / (s)) * (g0)))), (3, some (p01)), (4, some (p10)), (5, some (p11)), (6, some (((mkRat zn zd) - ((md an ad 5 0 0) * (x0))) - ((md an ad 5 1 0) * (x1)))), (7, some (s)), (8, some ((g0) / (s))), (9, some ((g1) / (s))), (10, some (g0)), (11, some (g1)), (12, some (s)), (20, some (md an ad 5 1 0)), (21, some (((g0) / (s)) * (g0)))]) := FS.sub (by rw [lk_up] at hF; exact hF) ⟨rfl, rfl, rfl, rfl, rfl, rfl, rfl, rfl, rfl, rfl, rfl, rfl, rfl, rfl, rfl, trivial⟩
  intro x9 e9
  obtain rfl : x9 = 1 := by rw [e9]; decide
  rw [wl_X7_doMeasure_125]
  refine ⟨fun hc => absurd hc (by decide), fun _ => ?_⟩
  rw [show (8 + 0 : Int32) = nI 8 from by decide, show (10 + 1 : Int32) = nI 11 from by decide]
  refine sp_multiply (d := 21) (a := 8) (b := 11) hF (by decide) (by decide) (by decide) (by decide) (by decide) rfl rfl z9 zg1 (by decide) ?_
  intro pi le sg wo hF
  have z17 : sz (((g0) / (s)) * (g1)) 480 := sz_mul z9 zg1
  have hF : FS pi le sg (lk [(0, some ((x0) + (((g0) / (s)) * (((mkRat zn zd) - ((md an ad 5 0 0) * (x0))) - ((md an ad 5 1 0) * (x1)))))), (1, some ((x1) + (((g1) / (s)) * (((mkRat zn zd) - ((md an ad 5 0 0) * (x0))) - ((md an ad 5 1 0) * (x1)))))), (2, some ((p00) - (((g0) / (s)) * (g0)))), (3, some (p01)), (4, some (p10)), (5, some (p11)), (6, some (((mkRat zn zd) - ((md an ad 5 0 0) * (x0))) - ((md an ad 5 1 0) * (x1)))), (7, some (s)), (8, some ((g0) / (s))), (9, some ((g1) / (s))), (10, some (g0)), (11, some (g1)), (12, some (s)), (20, some (md an ad 5 1 0)), (21, some (((g0) / (s)) * (g1)))]) := FS.sub (by rw [lk_up] at hF; exact hF) ⟨rfl, rfl, rfl, rfl, rfl, rfl, rfl, rfl, rfl, rfl, rfl, rfl, rfl, rfl, rfl, trivial⟩
  rw [wp_X7_cov, wp_X7_cov]
  rw [show (2 + 2 * 0 + 1 : Int32) = nI 3 from by decide]
  refine sp_sub (d := 3) (a := 3) (b := 21) hF (by decide) (by decide) (by decide) (by decide) rfl rfl zp01 z17 (by decide) ?_
  intro pi le sg wo hF
  have z18 : sz ((p01) - (((g0) / (s)) * (g1))) 641 := sz_sub zp01 z17
  have hF : FS pi le sg (lk [(0, some ((x0) + (((g0) / (s)) * (((mkRat zn zd) - ((md an ad 5 0 0) * (x0))) - ((md an ad 5 1 0) * (x1)))))), (1, some ((x1) + (((g1) / (s)) * (((mkRat zn zd) - ((md an ad 5 0 0) * (x0))) - ((md an ad 5 1 0) * (x1)))))), (2, some ((p00) - (((g0) / (s)) * (g0)))), (3, some ((p01) - (((g0) / (s)) * (g1)))), (4, some (p10)), (5, some (p11)), (6, some (((mkRat zn zd) - ((md an ad 5 0 0) * (x0))) - ((md an ad 5 1 0) * (x1)))), (7, some (s)), (8, some ((g0) / (s))), (9, some ((g1) / (s))), (10, some (g0)), (11, some (g1)), (12, some (s)), (20, some (md an ad 5 1 0)), (21, some (((g0) / (s)) * (g1)))]) := FS.sub (by rw [lk_up] at hF; exact hF) ⟨rfl, rfl, rfl, rfl, rfl, rfl, rfl, rfl, rfl, rfl, rfl, rfl, rfl, rfl, rfl, trivial⟩
  intro x9 e9
  obtain rfl : x9 = 2 := by rw [e9]; decide
  rw [wl_X7_doMeasure_125]
  refine ⟨fun _ => ?_, fun hc => absurd (by decide) hc⟩
  intro x9 e9
  obtain rfl : x9 = 1 := by rw [e9]; decide
  rw [wl_X7_doMeasure_114]
  refine ⟨fun hc => absurd hc (by decide), fun _ => ?_⟩
  refine ⟨3 + 1, ?_⟩
  rw [wl_X7_doMeasure_125]
  refine ⟨fun hc => absurd hc (by decide), fun _ => ?_⟩
  rw [show (8 + 1 : Int32) = nI 9 from by decide, show (10 + 0 : Int32) = nI 10 from by decide]
  refine sp_multiply (d := 21) (a := 9) (b := 10) hF (by decide) (by decide) (by decide) (by decide) (by decide) rfl rfl z12 zg0 (by decide) ?_
  intro pi le sg wo hF
  have z19 : sz (((g1) / (s)) * (g0)) 480 := sz_mul z12 zg0
  have hF : FS pi le sg (lk [(0, some ((x0) + (((g0) / (s)) * (((mkRat zn zd) - ((md an ad 5 0 0) * (x0))) - ((md an ad 5 1 0) * (x1)))))), (1, some ((x1) + (((g1) / (s)) * (((mkRat zn zd) - ((md an ad 5 0 0) * (x0))) - ((md an ad 5 1 0) * (x1)))))), (2, some ((p00) - (((g0) / (s)) * (g0)))), (3, some ((p01) - (((g0) / (s)) * (g1)))), (4, some (p10)), (5, some (p11)), (6, some (((mkRat zn zd) - ((md an ad 5 0 0) * (x0))) - ((md an ad 5 1 0) * (x1)))), (7, some (s)), (8, some ((g0) / (s))), (9, some ((g1) / (s))), (10, some (g0)), (11, some (g1)), (12, some (s)), (20, some (md an ad 5 1 0)), (21, some (((g1) / (s)) * (g0)))]) := FS.sub (by rw [lk_up] at hF; exact hF) ⟨rfl, rfl, rfl, rfl, rfl, rfl, rfl, rfl, rfl, rfl, rfl, rfl, rfl, rfl, rfl, trivial⟩
  rw [wp_X7_cov, wp_X7_cov]
  rw [show (2 + 2 * 1 + 0 : Int32) = nI 4 from by decide]
  refine sp_sub (d := 4) (a := 4) (b := 21) hF (by decide) (by decide) (by decide) (by decide) rfl rfl zp10 z19 (by decide) ?_
  intro pi le sg wo hF
  have z20 : sz ((p10) - (((g1) / (s)) * (g0))) 641 := sz_sub zp10 z19
  have hF : FS pi le sg (lk [(0, some ((x0) + (((g0) / (s)) * (((mkRat zn zd) - ((md an ad 5 0 0) * (x0))) - ((md an ad 5 1 0) * (x1)))))), (1, some ((x1) + (((g1) / (s)) * (((mkRat zn zd) - ((md an ad 5 0 0) * (x0))) - ((md an ad 5 1 0) * (x1)))))), (2, some ((p00) - (((g0) / (s)) * (g0)))), (3, some ((p01) - (((g0) / (s)) * (g1)))), (4, some ((p10) - (((g1) / (s)) * (g0)))), (5, some (p11)), (6, some (((mkRat zn zd) - ((md an ad 5 0 0) * (x0))) - ((md an ad 5 1 0) * (x1)))), (7, some (s)), (8, some ((g0) / (s))), (9, some ((g1) / (s))), (10, some (g0)), (11, some (g1)), (12, some (s)), (20, some (md an ad 5 1 0)), (21, some (((g1) / (s)) * (g0)))]) := FS.sub (by rw [lk_up] at hF; exact hF) ⟨rfl, rfl, rfl, rfl, rfl, rfl, rfl, rfl, rfl, rfl, rfl, rfl, rfl, rfl, rfl, trivial⟩
  intro x9 e9
  obtain rfl : x9 = 1 := by rw [e9]; decide
  rw [wl_X7_doMeasure_125]
  refine ⟨fun hc => absurd hc (by decide), fun _ => ?_⟩
  rw [show (8 + 1 : Int32) = nI 9 from by decide, show (10 + 1 : Int32) = nI 11 from by decide]
  refine sp_multiply (d := 21) (a := 9) (b := 11) hF (by decide) (by decide) (by decide) (by decide) (by decide) rfl rfl z12 zg1 (by decide) ?_
  intro pi le sg wo hF
  have z21 : sz (((g1) / (s)) * (g1)) 480 := sz_mul z12 zg1
  have hF : FS pi le sg (lk [(0, some ((x0) + (((g0) / (s)) * (((mkRat zn zd) - ((md an ad 5 0 0) * (x0))) - ((md an ad 5 1 0) * (x1)))))), (1, some ((x1) + (((g1) / (s)) * (((mkRat zn zd) - ((md an ad 5 0 0) * (x0))) - ((md an ad 5 1 0) * (x1)))))), (2, some ((p00) - (((g0) / (s)) * (g0)))), (3, some ((p01) - (((g0) / (s)) * (g1)))), (4, some ((p10) - (((g1) / (s)) * (g0)))), (5, some (p11)), (6, some (((mkRat zn zd) - ((md an ad 5 0 0) * (x0))) - ((md an ad 5 1 0) * (x1)))), (7, some (s)), (8, some ((g0) / (s))), (9, some ((g1) / (s))), (10, some (g0)), (11, some (g1)), (12, some (s)), (20, some (md an ad 5 1 0)), (21, some (((g1) / (s)) * (g1)))]) := FS.sub (by rw [lk_up] at hF; exact hF) ⟨rfl, rfl, rfl, rfl, rfl, rfl, rfl, rfl, rfl, rfl, rfl, rfl, rfl, rfl, rfl, trivial⟩
  rw [wp_X7_cov, wp_X7_cov]
  rw [show (2 + 2 * 1 + 1 : Int32) = nI 5 from by decide]
  refine sp_sub (d := 5) (a := 5) (b := 21) hF (by decide) (by decide) (by decide) (by decide) rfl rfl zp11 z21 (by decide) ?_
  intro pi le sg wo hF
  have z22 : sz ((p11) - (((g1) / (s)) * (g1))) 641 := sz_sub zp11 z21
  have hF : FS pi le sg (lk [(0, some ((x0) + (((g0) / (s)) * (((mkRat zn zd) - ((md an ad 5 0 0) * (x0))) - ((md an ad 5 1 0) * (x1)))))), (1, some ((x1) + (((g1) / (s)) * (((mkRat zn zd) - ((md an ad 5 0 0) * (x0))) - ((md an ad 5 1 0) * (x1)))))), (2, some ((p00) - (((g0) / (s)) * (g0)))), (3, some ((p01) - (((g0) / (s)) * (g1)))), (4, some ((p10) - (((g1) / (s)) * (g0)))), (5, some ((p11) - (((g1) / (s)) * (g1)))), (6, some (((mkRat zn zd) - ((md an ad 5 0 0) * (x0))) - ((md an ad 5 1 0) * (x1)))), (7, some (s)), (8, some ((g0) / (s))), (9, some ((g1) / (s))), (10, some (g0)), (11, some (g1)), (12, some (s)), (20, some (md an ad 5 1 0)), (21, some (((g1) / (s)) * (g1)))]) := FS.sub (by rw [lk_up] at hF; exact hF) ⟨rfl, rfl, rfl, rfl, rfl, rfl, rfl, rfl, rfl, rfl, rfl, rfl, rfl, rfl, rfl, trivial⟩
  intro x9 e9
  obtain rfl : x9 = 2 := by rw [e9]; decide
  rw [wl_X7_doMeasure_125]
  refine ⟨fun _ => ?_, fun hc => absurd (by decide) hc⟩
  intro x9 e9
  obtain rfl : x9 = 2 := by rw [e9]; decide
  rw [wl_X7_doMeasure_114]
  refine ⟨fun _ => ?_, fun hc => absurd (by decide) hc⟩
  exact k _ _ _ _ (FS.sub hF ⟨rfl, rfl, rfl, rfl, rfl, rfl, rfl, rfl, rfl, rfl, trivial⟩)
set_option maxHeartbeats 4000000 in
set_option maxRecDepth 100000 in
theorem sp_doPredict2 {ab be pi le sg wo : Nat → Int32} {an : Nat → Int} {ad : Nat → Nat} {x0 x1 p00 p01 p10 p11 : Rat} {o6 o7 o8 o9 : Option Rat} (hM : MD ab be an ad) (hF : FS pi le sg (lk [(0, some (x0)), (1, some (x1)), (2, some (p00)), (3, some (p01)), (4, some (p10)), (5, some (p11)), (6, o6), (7, o7), (8, o8), (9, o9)])) (zx0 : sz x0 160) (zx1 : sz x1 160) (zp00 : sz p00 160) (zp01 : sz p01 160) (zp10 : sz p10 160) (zp11 : sz p11 160) {post : (Nat → Int32) → (Nat → Int32) → (Nat → Int32) → (Nat → Int32) → Prop} 
    (k : ∀ pi le sg wo, FS pi le sg (lk [(0, some (((md an ad 3 0 0) + ((md an ad 2 0 0) * (x0))) + ((md an ad 2 0 1) * (x1)))), (1, some (((md an ad 3 1 0) + ((md an ad 2 1 0) * (x0))) + ((md an ad 2 1 1) * (x1)))), (2, some (((md an ad 4 0 0) + ((((mkRat 0 1) + ((md an ad 2 0 0) * (p00))) + ((md an ad 2 0 1) * (p10))) * (md an ad 2 0 0))) + ((((mkRat 0 1) + ((md an ad 2 0 0) * (p01))) + ((md an ad 2 0 1) * (p11))) * (md an ad 2 0 1)))), (3, some (((md an ad 4 0 1) + ((((mkRat 0 1) + ((md an ad 2 0 0) * (p00))) + ((md an ad 2 0 1) * (p10))) * (md an ad 2 1 0))) + ((((mkRat 0 1) + ((md an ad 2 0 0) * (p01))) + ((md an ad 2 0 1) * (p11))) * (md an ad 2 1 1)))), (4, some (((md an ad 4 1 0) + ((((mkRat 0 1) + ((md an ad 2 1 0) * (p00))) + ((md an ad 2 1 1) * (p10))) * (md an ad 2 0 0))) + ((((mkRat 0 1) + ((md an ad 2 1 0) * (p01))) + ((md an ad 2 1 1) * (p11))) * (md an ad 2 0 1)))), (5, some (((md an ad 4 1 1) + ((((mkRat 0 1) + ((md an ad 2 1 0) * (p00))) + ((md an ad 2 1 1) * (p10))) * (md an ad 2 1 0))) + ((((mkRat 0 1) + ((md an ad 2 1 0) * (p01))) + ((md an ad 2 1 1) * (p11))) * (md an ad 2 1 1)))), (6, o6), (7, o7), (8, o8), (9, o9)]) → post pi le sg wo) : wp_X7_doPredict 2 ab be pi le sg wo post := by
  rw [wp_X7_doPredict]
  refine ⟨3 + 1, ?_⟩
  rw [wl_X7_doPredict_2]
  refine ⟨fun hc => absurd hc (by decide), fun _ => ?_⟩
  refine ⟨3 + 1, ?_⟩
  rw [wl_X7_doPredict_12]
  refine ⟨fun hc => absurd hc (by decide), fun _ => ?_⟩
  rw [show (10 + 2 * 0 + 0 : Int32) = nI 10 from by decide]
  refine sp_fraction (f := 10) (n := 0) (d := 1) hF (by decide) (by decide) (by decide) (by decide) ?_
  intro pi le sg wo hF
  have z1 : sz (mkRat 0 1) 1 := sz_mkRat (by decide) (by decide) (by decide)
  have hF : FS pi le sg (lk [(0, some (x0)), (1, some (x1)), (2, some (p00)), (3, some (p01)), (4, some (p10)), (5, some (p11)), (6, o6), (7, o7), (8, o8), (9, o9), (10, some (mkRat 0 1))]) := FS.sub (by rw [lk_up] at hF; exact hF) ⟨rfl, rfl, rfl, rfl, rfl, rfl, rfl, rfl, rfl, rfl, rfl, trivial⟩
  refine ⟨3 + 1, ?_⟩
  rw [wl_X7_doPredict_36]
  refine ⟨fun hc => absurd hc (by decide), fun _ => ?_⟩
  refine sp_md (f := 20) (p := 2) (i := 0) (j := 0) hM hF (by decide) (by decide) ?_
  intro pi le sg wo hF
  have z2 : sz (md an ad 2 0 0) 1 := sz_md hM (by decide)
  have hF : FS pi le sg (lk [(0, some (x0)), (1, some (x1)), (2, some (p00)), (3, some (p01)), (4, some (p10)), (5, some (p11)), (6, o6), (7, o7), (8, o8), (9, o9), (10, some (mkRat 0 1)), (20, some (md an ad 2 0 0))]) := FS.sub (by rw [lk_up] at hF; exact hF) ⟨rfl, rfl, rfl, rfl, rfl, rfl, rfl, rfl, rfl, rfl, rfl, rfl, trivial⟩
  rw [wp_X7_cov]
  rw [show (2 + 2 * 0 + 0 : Int32) = nI 2 from by decide]
  refine sp_multiply (d := 21) (a := 20) (b := 2) hF (by decide) (by decide) (by decide) (by decide) (by decide) rfl rfl z2 zp00 (by decide) ?_
  intro pi le sg wo hF
  have z3 : sz ((md an ad 2 0 0) * (p00)) 161 := sz_mul z2 zp00
  have hF : FS pi le sg (lk [(0, some (x0)), (1, some (x1)), (2, some (p00)), (3, some (p01)), (4, some (p10)), (5, some (p11)), (6, o6), (7, o7), (8, o8), (9, o9), (10, some (mkRat 0 1)), (20, some (md an ad 2 0 0)), (21, some ((md an ad 2 0 0) * (p00)))]) := FS.sub (by rw [lk_up] at hF; exact hF) ⟨rfl, rfl, rfl, rfl, rfl, rfl, rfl, rfl, rfl, rfl, rfl, rfl, rfl, trivial⟩
  rw [show (10 + 2 * 0 + 0 : Int32) = nI 10 from by decide]
  refine sp_add (d := 10) (a := 10) (b := 21) hF (by decide) (by decide) (by decide) (by decide) rfl rfl z1 z3 (by decide) ?_
  intro pi le sg wo hF
  have z4 : sz ((mkRat 0 1) + ((md an ad 2 0 0) * (p00))) 163 := sz_add z1 z3
  have hF : FS pi le sg (lk [(0, some (x0)), (1, some (x1)), (2, some (p00)), (3, some (p01)), (4, some (p10)), (5, some (p11)), (6, o6), (7, o7), (8, o8), (9, o9), (10, some ((mkRat 0 1) + ((md an ad 2 0 0) * (p00)))), (20, some (md an ad 2 0 0)), (21, some ((md an ad 2 0 0) * (p00)))]) := FS.sub (by rw [lk_up] at hF; exact hF) ⟨rfl, rfl, rfl, rfl, rfl, rfl, rfl, rfl, rfl, rfl, rfl, rfl, rfl, trivial⟩
  intro x9 e9
  obtain rfl : x9 = 1 := by rw [e9]; decide
  rw [wl_X7_doPredict_36]
  refine ⟨fun hc => absurd hc (by decide), fun _ => ?_⟩
  refine sp_md (f := 20) (p := 2) (i := 0) (j := 1) hM hF (by decide) (by decide) ?_
  intro pi le sg wo hF
  have z5 : sz (md an ad 2 0 1) 1 := sz_md hM (by decide)
  have hF : FS pi le sg (lk [(0, some (x0)), (1, some (x1)), (2, some (p00)), (3, some (p01)), (4, some (p10)), (5, some (p11)), (6, o6), (7, o7), (8, o8), (9, o9), (10, some ((mkRat 0 1) + ((md an ad 2 0 0) * (p00)))), (20, some (md an ad 2 0 1)), (21, some ((md an ad 2 0 0) * (p00)))]) := FS.sub (by rw [lk_up] at hF; exact hF) ⟨rfl, rfl, rfl, rfl, rfl, rfl, rfl, rfl, rfl, rfl, rfl, rfl, rfl, trivial⟩
  rw [wp_X7_cov]
  rw [show (2 + 2 * 1 + 0 : Int32) = nI 4 from by decide]
  refine sp_multiply (d := 21) (a := 20) (b := 4) hF (by decide) (by decide) (by decide) (by decide) (by decide) rfl rfl z5 zp10 (by decide) ?_
  intro pi le sg wo hF
  have z6 : sz ((md an ad 2 0 1) * (p10)) 161 := sz_mul z5 zp10
  have hF : FS pi le sg (lk [(0, some (x0)), (1, some (x1)), (2, some (p00)), (3, some (p01)), (4, some (p10)), (5, some (p11)), (6, o6), (7, o7), (8, o8), (9, o9), (10, some ((mkRat 0 1) + ((md an ad 2 0 0) * (p00)))), (20, some (md an ad 2 0 1)), (21, some ((md an ad 2 0 1) * (p10)))]) := FS.sub (by rw [lk_up] at hF; exact hF) ⟨rfl, rfl, rfl, rfl, rfl, rfl, rfl, rfl, rfl, rfl, rfl, rfl, rfl, trivial⟩
  rw [show (10 + 2 * 0 + 0 : Int32) = nI 10 from by decide]
  refine sp_add (d := 10) (a := 10) (b := 21) hF (by decide) (by decide) (by decide) (by decide) rfl rfl z4 z6 (by decide) ?_
  intro pi le sg wo hF
  have z7 : sz (((mkRat 0 1) + ((md an ad 2 0 0) * (p00))) + ((md an ad 2 0 1) * (p10))) 325 := sz_add z4 z6
  have hF : FS pi le sg (lk [(0, some (x0)), (1, some (x1)), (2, some (p00)), (3, some (p01)), (4, some (p10)), (5, some (p11)), (6, o6), (7, o7), (8, o8), (9, o9), (10, some (((mkRat 0 1) + ((md an ad 2 0 0) * (p00))) + ((md an ad 2 0 1) * (p10)))), (20, some (md an ad 2 0 1)), (21, some ((md an ad 2 0 1) * (p10)))]) := FS.sub (by rw [lk_up] at hF; exact hF) ⟨rfl, rfl, rfl, rfl, rfl, rfl, rfl, rfl, rfl, rfl, rfl, rfl, rfl, trivial⟩
  intro x9 e9
  obtain rfl : x9 = 2 := by rw [e9]; decide
  rw [wl_X7_doPredict_36]
  refine ⟨fun _ => ?_, fun hc => absurd (by decide) hc⟩
  intro x9 e9
  obtain rfl : x9 = 1 := by rw [e9]; decide
  rw [wl_X7_doPredict_12]
  refine ⟨fun hc => absurd hc (by decide), fun _ => ?_⟩
  rw [show (10 + 2 * 0 + 1 : Int32) = nI 11 from by decide]
  refine sp_fraction (f := 11) (n := 0) (d := 1) hF (by decide) (by decide) (by decide) (by decide) ?_
  intro pi le sg wo hF
  have z8 : sz (mkRat 0 1) 1 := sz_mkRat (by decide) (by decide) (by decide)
  have hF : FS pi le sg (lk [(0, some (x0)), (1, some (x1)), (2, some (p00)), (3, some (p01)), (4, some (p10)), (5, some (p11)), (6, o6), (7, o7), (8, o8), (9, o9), (10, some (((mkRat 0 1) + ((md an ad 2 0 0) * (p00))) + ((md an ad 2 0 1) * (p10)))), (11, some (mkRat 0 1)), (20, some (md an ad 2 0 1)), (21, some ((md an ad 2 0 1) * (p10)))]) := FS.sub (by rw [lk_up] at hF; exact hF) ⟨rfl, rfl, rfl, rfl, rfl, rfl, rfl, rfl, rfl, rfl, rfl, rfl, rfl, rfl, trivial⟩
  refine ⟨3 + 1, ?_⟩
  rw [wl_X7_doPredict_36]
  refine ⟨fun hc => absurd hc (by decide), fun _ => ?_⟩
  refine sp_md (f := 20) (p := 2) (i := 0) (j := 0) hM hF (by decide) (by decide) ?_
  intro pi le sg wo hF
  have z9 : sz (md an ad 2 0 0) 1 := sz_md hM (by decide)
  have hF : FS pi le sg (lk [(0, some (x0)), (1, some (x1)), (2, some (p00)), (3, some (p01)), (4, some (p10)), (5, some (p11)), (6, o6), (7, o7), (8, o8), (9, o9), (10, some (((mkRat 0 1) + ((md an ad 2 0 0) * (p00))) + ((md an ad 2 0 1) * (p10)))), (11, some (mkRat 0 1)), (20, some (md an ad 2 0 0)), (21, some ((md an ad 2 0 1) * (p10)))]) := FS.sub (by rw [lk_up] at hF; exact hF) ⟨rfl, rfl, rfl, rfl, rfl, rfl, rfl, rfl, rfl, rfl, rfl, rfl, rfl, rfl, trivial⟩
  rw [wp_X7_cov]
  rw [show (2 + 2 * 0 + 1 : Int32) = nI 3 from by decide]
  refine sp_multiply (d := 21) (a := 20) (b := 3) hF (by decide) (by decide) (by decide) (by decide) (by decide) rfl rfl z9 zp01 (by decide) ?_
  intro pi le sg wo hF
  have z10 : sz ((md an ad 2 0 0) * (p01)) 161 := sz_mul z9 zp01
  have hF : FS pi le sg (lk [(0, some (x0)), (1, some (x1)), (2, some (p00)), (3, some (p01)), (4, some (p10)), (5, some (p11)), (6, o6), (7, o7), (8, o8), (9, o9), (10, some (((mkRat 0 1) + ((md an ad 2 0 0) * (p00))) + ((md an ad 2 0 1) * (p10)))), (11, some (mkRat 0 1)), (20, some (md an ad 2 0 0)), (21, some ((md an ad 2 0 0) * (p01)))]) := FS.sub (by rw [lk_up] at hF; exact hF) ⟨rfl, rfl, rfl, rfl, rfl, rfl, rfl, rfl, rfl, rfl, rfl, rfl, rfl, rfl, trivial⟩
  rw [show (10 + 2 * 0 + 1 : Int32) = nI 11 from by decide]
  refine sp_add (d := 11) (a := 11) (b := 21) hF (by decide) (by decide) (by decide) (by decide) rfl rfl z8 z10 (by decide) ?_
  intro pi le sg wo hF
  have z11 : sz ((mkRat 0 1) + ((md an ad 2 0 0) * (p01))) 163 := sz_add z8 z10
  have hF : FS pi le sg (lk [(0, some (x0)), (1, some (x1)), (2, some (p00)), (3, some (p01)), (4, some (p10)), (5, some (p11)), (6, o6), (7, o7), (8, o8), (9, o9), (10, some (((mkRat 0 1) + ((md an ad 2 0 0) * (p00))) + ((md an ad 2 0 1) * (p10)))), (11, some ((mkRat 0 1) + ((md an ad 2 0 0) * (p01)))), (20, some (md an ad 2 0 0)), (21, some ((md an ad 2 0 0) * (p01)))]) := FS.sub (by rw [lk_up] at hF; exact hF) ⟨rfl, rfl, rfl, rfl, rfl, rfl, rfl, rfl, rfl, rfl, rfl, rfl, rfl, rfl, trivial⟩
  intro x9 e9
  obtain rfl : x9 = 1 := by rw [e9]; decide
  rw [wl_X7_doPredict_36]
  refine ⟨fun hc => absurd hc (by decide), fun _ => ?_⟩
  refine sp_md (f := 20) (p := 2) (i := 0) (j := 1) hM hF (by decide) (by decide) ?_
  intro pi le sg wo hF
  have z12 : sz (md an ad 2 0 1) 1 := sz_md hM (by decide)
  have hF : FS pi le sg (lk [(0, some (x0)), (1, some (x1)), (2, some (p00)), (3, some (p01)), (4, some (p10)), (5, some (p11)), (6, o6), (7, o7), (8, o8), (9, o9), (10, some (((mkRat 0 1) + ((md an ad 2 0 0) * (p00))) + ((md an ad 2 0 1) * (p10)))), (11, some ((mkRat 0 1) + ((md an ad 2 0 0) * (p01)))), (20, some (md an ad 2 0 1)), (21, some ((md an ad 2 0 0) * (p01)))]) := FS.sub (by rw [lk_up] at hF; exact hF) ⟨rfl, rfl, rfl, rfl, rfl, rfl, rfl, rfl, rfl, rfl, rfl, rfl, rfl, rfl, trivial⟩
  rw [wp_X7_cov]
  rw [show (2 + 2 * 1 + 1 : Int32) = nI 5 from by decide]
  refine sp_multiply (d := 21) (a := 20) (b := 5) hF (by decide) (by decide) (by decide) (by decide) (by decide) rfl rfl z12 zp11 (by decide) ?_
  intro pi le sg wo hF
  have z13 : sz ((md an ad 2 0 1) * (p11)) 161 := sz_mul z12 zp11
  have hF : FS pi le sg (lk [(0, some (x0)), (1, some (x1)), (2, some (p00)), (3, some (p01)), (4, some (p10)), (5, some (p11)), (6, o6), (7, o7), (8, o8), (9, o9), (10, some (((mkRat 0 1) + ((md an ad 2 0 0) * (p00))) + ((md an ad 2 0 1) * (p10)))), (11, some ((mkRat 0 1) + ((md an ad 2 0 0) * (p01)))), (20, some (md an ad 2 0 1)), (21, some ((md an ad 2 0 1) * (p11)))]) := FS.sub (by rw [lk_up] at hF; exact hF) ⟨rfl, rfl, rfl, rfl, rfl, rfl, rfl, rfl, rfl, rfl, rfl, rfl, rfl, rfl, trivial⟩
  rw [show (10 + 2 * 0 + 1 : Int32) = nI 11 from by decide]
  refine sp_add (d := 11) (a := 11) (b := 21) hF (by decide) (by decide) (by decide) (by decide) rfl rfl z11 z13 (by decide) ?_
  intro pi le sg wo hF
  have z14 : sz (((mkRat 0 1) + ((md an ad 2 0 0) * (p01))) + ((md an ad 2 0 1) * (p11))) 325 := sz_add z11 z13
  have hF : FS pi le sg (lk [(0, some (x0)), (1, some (x1)), (2, some (p00)), (3, some (p01)), (4, some (p10)), (5, some (p11)), (6, o6), (7, o7), (8, o8), (9, o9), (10, some (((mkRat 0 1) + ((md an ad 2 0 0) * (p00))) + ((md an ad 2 0 1) * (p10)))), (11, some (((mkRat 0 1) + ((md an ad 2 0 0) * (p01))) + ((md an ad 2 0 1) * (p11)))), (20, some (md an ad 2 0 1)), (21, some ((md an ad 2 0 1) * (p11)))]) := FS.sub (by rw [lk_up] at hF; exact hF) ⟨rfl, rfl, rfl, rfl, rfl, rfl, rfl, rfl, rfl, rfl, rfl, rfl, rfl, rfl, trivial⟩
  intro x9 e9
  obtain rfl : x9 = 2 := by rw [e9]; decide
  rw [wl_X7_doPredict_36]
  refine ⟨fun _ => ?_, fun hc => absurd (by decide) hc⟩
  intro x9 e9
  obtain rfl : x9 = 2 := by rw [e9]; decide
  rw [wl_X7_doPredict_12]
  refine ⟨fun _ => ?_, fun hc => absurd (by decide) hc⟩
  intro x9 e9
  obtain rfl : x9 = 1 := by rw [e9]; decide
  rw [wl_X7_doPredict_2]
  refine ⟨fun hc => absurd hc (by decide), fun _ => ?_⟩
  refine ⟨3 + 1, ?_⟩
  rw [wl_X7_doPredict_12]
  refine ⟨fun hc => absurd hc (by decide), fun _ => ?_⟩
  rw [show (10 + 2 * 1 + 0 : Int32) = nI 12 from by decide]
  refine sp_fraction (f := 12) (n := 0) (d := 1) hF (by decide) (by decide) (by decide) (by decide) ?_
  intro pi le sg wo hF
  have z15 : sz (mkRat 0 1) 1 := sz_mkRat (by decide) (by decide) (by decide)
  have hF : FS pi le sg (lk [(0, some (x0)), (1, some (x1)), (2, some (p00)), (3, some (p01)), (4, some (p10)), (5, some (p11)), (6, o6), (7, o7), (8, o8), (9, o9), (10, some (((mkRat 0 1) + ((md an ad 2 0 0) * (p00))) + ((md an ad 2 0 1) * (p10)))), (11, some (((mkRat 0 1) + ((md an ad 2 0 0) * (p01))) + ((md an ad 2 0 1) * (p11)))), (12, some (mkRat 0 1)), (20, some (md an ad 2 0 1)), (21, some ((md an ad 2 0 1) * (p11)))]) := FS.sub (by rw [lk_up] at hF; exact hF) ⟨rfl, rfl, rfl, rfl, rfl, rfl, rfl, rfl, rfl, rfl, rfl, rfl, rfl, rfl, rfl, trivial⟩
  refine ⟨3 + 1, ?_⟩
  rw [wl_X7_doPredict_36]
  refine ⟨fun hc => absurd hc (by decide), fun _ => ?_⟩
  refine sp_md (f := 20) (p := 2) (i := 1) (j := 0) hM hF (by decide) (by decide) ?_
  intro pi le sg wo hF
  have z16 : sz (md an ad 2 1 0) 1 := sz_md hM (by decide)
  have hF : FS pi le sg (lk [(0, some (x0)), (1, some (x1)), (2, some (p00)), (3, some (p01)), (4, some (p10)), (5, some (p11)), (6, o6), (7, o7), (8, o8), (9, o9), (10, some (((mkRat 0 1) + ((md an ad 2 0 0) * (p00))) + ((md an ad 2 0 1) * (p10)))), (11, some (((mkRat 0 1) + ((md an ad 2 0 0) * (p01))) + ((md an ad 2 0 1) * (p11)))), (12, some (mkRat 0 1)), (20, some (md an ad 2 1 0)), (21, some ((md an ad 2 0 1) * (p11)))]) := FS.sub (by rw [lk_up] at hF; exact hF) ⟨rfl, rfl, rfl, rfl, rfl, rfl, rfl, rfl, rfl, rfl, rfl, rfl, rfl, rfl, rfl, trivial⟩
  rw [wp_X7_cov]
  rw [show (2 + 2 * 0 + 0 : Int32) = nI 2 from by decide]
  refine sp_multiply (d := 21) (a := 20) (b := 2) hF (by decide) (by decide) (by decide) (by decide) (by decide) rfl rfl z16 zp00 (by decide) ?_
  intro pi le sg wo hF
  have z17 : sz ((md an ad 2 1 0) * (p00)) 161 := sz_mul z16 zp00
  have hF : FS pi le sg (lk [(0, some (x0)), (1, some (x1)), (2, some (p00)), (3, some (p01)), (4, some (p10)), (5, some (p11)), (6, o6), (7, o7), (8, o8), (9, o9), (10, some (((mkRat 0 1) + ((md an ad 2 0 0) * (p00))) + ((md an ad 2 0 1) * (p10)))), (11, some (((mkRat 0 1) + ((md an ad 2 0 0) * (p01))) + ((md an ad 2 0 1) * (p11)))), (12, some (mkRat 0 1)), (20, some (md an ad 2 1 0)), (21, some ((md an ad 2 1 0) * (p00)))]) := FS.sub (by rw [lk_up] at hF; exact hF) ⟨rfl, rfl, rfl, rfl, rfl, rfl, rfl, rfl, rfl, rfl, rfl, rfl, rfl, rfl, rfl, trivial⟩
  rw [show (10 + 2 * 1 + 0 : Int32) = nI 12 from by decide]
  refine sp_add (d := 12) (a := 12) (b := 21) hF (by decide) (by decide) (by decide) (by decide) rfl rfl z15 z17 (by decide) ?_
  intro pi le sg wo hF
  have z18 : sz ((mkRat 0 1) + ((md an ad 2 1 0) * (p00))) 163 := sz_add z15 z17
  have hF : FS pi le sg (lk [(0, some (x0)), (1, some (x1)), (2, some (p00)), (3, some (p01)), (4, some (p10)), (5, some (p11)), (6, o6), (7, o7), (8, o8), (9, o9), (10, some (((mkRat 0 1) + ((md an ad 2 0 0) * (p00))) + ((md an ad 2 0 1) * (p10)))), (11, some (((mkRat 0 1) + ((md an ad 2 0 0) * (p01))) + ((md an ad 2 0 1) * (p11)))), (12, some ((mkRat 0 1) + ((md an ad 2 1 0) * (p00)))), (20, some (md an ad 2 1 0)), (21, some ((md an ad 2 1 0) * (p00)))]) := FS.sub (by rw [lk_up] at hF; exact hF) ⟨rfl, rfl, rfl, rfl, rfl, rfl, rfl, rfl, rfl, rfl, rfl, rfl, rfl, rfl, rfl, trivial⟩
  intro x9 e9
  obtain rfl : x9 = 1 := by rw [e9]; decide
  rw [wl_X7_doPredict_36]
  refine ⟨fun hc => absurd hc (by decide), fun _ => ?_⟩
  refine sp_md (f := 20) (p := 2) (i := 1) (j := 1) hM hF (by decide) (by decide) ?_
  intro pi le sg wo hF
  have z19 : sz (md an ad 2 1 1) 1 := sz_md hM (by decide)
  have hF : FS pi le sg (lk [(0, some (x0)), (1, some (x1)), (2, some (p00)), (3, some (p01)), (4, some (p10)), (5, some (p11)), (6, o6), (7, o7), (8, o8), (9, o9), (10, some (((mkRat 0 1) + ((md an ad 2 0 0) * (p00))) + ((md an ad 2 0 1) * (p10)))), (11, some (((mkRat 0 1) + ((md an ad 2 0 0) * (p01))) + ((md an ad 2 0 1) * (p11)))), (12, some ((mkRat 0 1) + ((md an ad 2 1 0) * (p00)))), (20, some (md an ad 2 1 1)), (21, some ((md an ad 2 1 0) * (p00)))]) := FS.sub (by rw [lk_up] at hF; exact hF) ⟨rfl, rfl, rfl, rfl, rfl, rfl, rfl, rfl, rfl, rfl, rfl, rfl, rfl, rfl, rfl, trivial⟩
  rw [wp_X7_cov]
  rw [show (2 + 2 * 1 + 0 : Int32) = nI 4 from by decide]
  refine sp_multiply (d := 21) (a := 20) (b := 4) hF (by decide) (by decide) (by decide) (by decide) (by decide) rfl rfl z19 zp10 (by decide) ?_
  intro pi le sg wo hF
  have z20 : sz ((md an ad 2 1 1) * (p10)) 161 := sz_mul z19 zp10
  have hF : FS pi le sg (lk [(0, some (x0)), (1, some (x1)), (2, some (p00)), (3, some (p01)), (4, some (p10)), (5, some (p11)), (6, o6), (7, o7), (8, o8), (9, o9), (10, some (((mkRat 0 1) + ((md an ad 2 0 0) * (p00))) + ((md an ad 2 0 1) * (p10)))), (11, some (((mkRat 0 1) + ((md an ad 2 0 0) * (p01))) + ((md an ad 2 0 1) * (p11)))), (12, some ((mkRat 0 1) + ((md an ad 2 1 0) * (p00)))), (20, some (md an ad 2 1 1)), (21, some ((md an ad 2 1 1) * (p10)))]) := FS.sub (by rw [lk_up] at hF; exact hF) ⟨rfl, rfl, rfl, rfl, rfl, rfl, rfl, rfl, rfl, rfl, rfl, rfl, rfl, rfl, rfl, trivial⟩
  rw [show (10 + 2 * 1 + 0 : Int32) = nI 12 from by decide]
  refine sp_add (d := 12) (a := 12) (b := 21) hF (by decide) (by decide) (by decide) (by decide) rfl rfl z18 z20 (by decide) ?_
  intro pi le sg wo hF
  have z21 : sz (((mkRat 0 1) + ((md an ad 2 1 0) * (p00))) + ((md an ad 2 1 1) * (p10))) 325 := sz_add z18 z20
  have hF : FS pi le sg (lk [(0, some (x0)), (1, some (x1)), (2, some (p00)), (3, some (p01)), (4, some (p10)), (5, some (p11)), (6, o6), (7, o7), (8, o8), (9, o9), (10, some (((mkRat 0 1) + ((md an ad 2 0 0) * (p00))) + ((md an ad 2 0 1) * (p10)))), (11, some (((mkRat 0 1) + ((md an ad 2 0 0) * (p01))) + ((md an ad 2 0 1) * (p11)))), (12, some (((mkRat 0 1) + ((md an ad 2 1 0) * (p00))) + ((md an ad 2 1 1) * (p10)))), (20, some (md an ad 2 1 1)), (21, some ((md an ad 2 1 1) * (p10)))]) := FS.sub (by rw [lk_up] at hF; exact hF) ⟨rfl, rfl, rfl, rfl, rfl, rfl, rfl, rfl, rfl, rfl, rfl, rfl, rfl, rfl, rfl, trivial⟩
  intro x9 e9
  obtain rfl : x9 = 2 := by rw [e9]; decide
  rw [wl_X7_doPredict_36]
  refine ⟨fun _ => ?_, fun hc => absurd (by decide) hc⟩
  intro x9 e9
  obtain rfl : x9 = 1 := by rw [e9]; decide
  rw [wl_X7_doPredict_12]
  refine ⟨fun hc => absurd hc (by decide), fun _ => ?_⟩
  rw [show (10 + 2 * 1 + 1 : Int32) = nI 13 from by decide]
  refine sp_fraction (f := 13) (n := 0) (d := 1) hF (by decide) (by decide) (by decide) (by decide) ?_
  intro pi le sg wo hF
  have z22 : sz (mkRat 0 1) 1 := sz_mkRat (by decide) (by decide) (by decide)
  have hF : FS pi le sg (lk [(0, some (x0)), (1, some (x1)), (2, some (p00)), (3, some (p01)), (4, some (p10)), (5, some (p11)), (6, o6), (7, o7), (8, o8), (9, o9), (10, some (((mkRat 0 1) + ((md an ad 2 0 0) * (p00))) + ((md an ad 2 0 1) * (p10)))), (11, some (((mkRat 0 1) + ((md an ad 2 0 0) * (p01))) + ((md an ad 2 0 1) * (p11)))), (12, some (((mkRat 0 1) + ((md an ad 2 1 0) * (p00))) + ((md an ad 2 1 1) * (p10)))), (13, some (mkRat 0 1)), (20, some (md an ad 2 1 1)), (21, some ((md an ad 2 1 1) * (p10)))]) := FS.sub (by rw [lk_up] at hF; exact hF) ⟨rfl, rfl, rfl, rfl, rfl, rfl, rfl, rfl, rfl, rfl, rfl, rfl, rfl, rfl, rfl, rfl, trivial⟩
  refine ⟨3 + 1, ?_⟩
  rw [wl_X7_doPredict_36]
  refine ⟨fun hc => absurd hc (by decide), fun _ => ?_⟩
  refine sp_md (f := 20) (p := 2) (i := 1) (j := 0) hM hF (by decide) (by decide) ?_
  intro pi le sg wo hF
  have z23 : sz (md an ad 2 1 0) 1 := sz_md hM (by decide)
  have hF : FS pi le sg (lk [(0, some (x0)), (1, some (x1)), (2, some (p00)), (3, some (p01)), (4, some (p10)), (5, some (p11)), (6, o6), (7, o7), (8, o8), (9, o9), (10, some (((mkRat 0 1) + ((md an ad 2 0 0) * (p00))) + ((md an ad 2 0 1) * (p10)))), (11, some (((mkRat 0 1) + ((md an ad 2 0 0) * (p01))) + ((md an ad 2 0 1) * (p11)))), (12, some (((mkRat 0 1) + ((md an ad 2 1 0) * (p00))) + ((md an ad 2 1 1) * (p10)))), (13, some (mkRat 0 1)), (20, some (md an ad 2 1 0)), (21, some ((md an ad 2 1 1) * (p10)))]) := FS.sub (by rw [lk_up] at hF; exact hF) ⟨rfl, rfl, rfl, rfl, rfl, rfl, rfl, rfl, rfl, rfl, rfl, rfl, rfl, rfl, rfl, rfl, trivial⟩
  rw [wp_X7_cov]
  rw [show (2 + 2 * 0 + 1 : Int32) = nI 3 from by decide]
  refine sp_multiply (d := 21) (a := 20) (b := 3) hF (by decide) (by decide) (by decide) (by decide) (by decide) rfl rfl z23 zp01 (by decide) ?_
  intro pi le sg wo hF
  have z24 : sz ((md an ad 2 1 0) * (p01)) 161 := sz_mul z23 zp01
  have hF : FS pi le sg (lk [(0, some (x0)), (1, some (x1)), (2, some (p00)), (3, some (p01)), (4, some (p10)), (5, some (p11)), (6, o6), (7, o7), (8, o8), (9, o9), (10, some (((mkRat 0 1) + ((md an ad 2 0 0) * (p00))) + ((md an ad 2 0 1) * (p10)))), (11, some (((mkRat 0 1) + ((md an ad 2 0 0) * (p01))) + ((md an ad 2 0 1) * (p11)))), (12, some (((mkRat 0 1) + ((md an ad 2 1 0) * (p00))) + ((md an ad 2 1 1) * (p10)))), (13, some (mkRat 0 1)), (20, some (md an ad 2 1 0)), (21, some ((md an ad 2 1 0) * (p01)))]) := FS.sub (by rw [lk_up] at hF; exact hF) ⟨rfl, rfl, rfl, rfl, rfl, rfl, rfl, rfl, rfl, rfl, rfl, rfl, rfl, rfl, rfl, rfl, trivial⟩
  rw [show (10 + 2 * 1 + 1 : Int32) = nI 13 from by decide]
  refine sp_add (d := 13) (a := 13) (b := 21) hF (by decide) (by decide) (by decide) (by decide) rfl rfl z22 z24 (by decide) ?_
  intro pi le sg wo hF
  have z25 : sz ((mkRat 0 1) + ((md an ad 2 1 0) * (p01))) 163 := sz_add z22 z24
  have hF : FS pi le sg (lk [(0, some (x0)), (1, some (x1)), (2, some (p00)), (3, some (p01)), (4, some (p10)), (5, some (p11)), (6, o6), (7, o7), (8, o8), (9, o9), (10, some (((mkRat 0 1) + ((md an ad 2 0 0) * (p00))) + ((md an ad 2 0 1) * (p10)))), (11, some (((mkRat 0 1) + ((md an ad 2 0 0) * (p01))) + ((md an ad 2 0 1) * (p11)))), (12, some (((mkRat 0 1) + ((md an ad 2 1 0) * (p00))) + ((md an ad 2 1 1) * (p10)))), (13, some ((mkRat 0 1) + ((md an ad 2 1 0) * (p01)))), (20, some (md an ad 2 1 0)), (21, some ((md an ad 2 1 0) * (p01)))]) := FS.sub (by rw [lk_up] at hF; exact hF) ⟨rfl, rfl, rfl, rfl, rfl, rfl, rfl, rfl, rfl, rfl, rfl, rfl, rfl, rfl, rfl, rfl, trivial⟩
  intro x9 e9
  obtain rfl : x9 = 1 := by rw [e9]; decide
  rw [wl_X7_doPredict_36]
  refine ⟨fun hc => absurd hc (by decide), fun _ => ?_⟩
  refine sp_md (f := 20) (p := 2) (i := 1) (j := 1) hM hF (by decide) (by decide) ?_
  intro pi le sg wo hF
  have z26 : sz (md an ad 2 1 1) 1 := sz_md hM (by decide)
  have hF : FS pi le sg (lk [(0, some (x0)), (1, some (x1)), (2, some (p00)), (3, some (p01)), (4, some (p10)), (5, some (p11)), (6, o6), (7, o7), (8, o8), (9, o9), (10, some (((mkRat 0 1) + ((md an ad 2 0 0) * (p00))) + ((md an ad 2 0 1) * (p10)))), (11, some (((mkRat 0 1) + ((md an ad 2 0 0) * (p01))) + ((md an ad 2 0 1) * (p11)))), (12, some (((mkRat 0 1) + ((md an ad 2 1 0) * (p00))) + ((md an ad 2 1 1) * (p10)))), (13, some ((mkRat 0 1) + ((md an ad 2 1 0) * (p01)))), (20, some (md an ad 2 1 1)), (21, some ((md an ad 2 1 0) * (p01)))]) := FS.sub (by rw [lk_up] at hF; exact hF) ⟨rfl, rfl, rfl, rfl, rfl, rfl, rfl, rfl, rfl, rfl, rfl, rfl, rfl, rfl, rfl, rfl, trivial⟩
  rw [wp_X7_cov]
  rw [show (2 + 2 * 1 + 1 : Int32) = nI 5 from by decide]
  refine sp_multiply (d := 21) (a := 20) (b := 5) hF (by decide) (by decide) (by decide) (by decide) (by decide) rfl rfl z26 zp11 (by decide) ?_
  intro pi le sg wo hF
  have z27 : sz ((md an ad 2 1 1) * (p11)) 161 := sz_mul z26 zp11
  have hF : FS pi le sg (lk [(0, some (x0)), (1, some (x1)), (2, some (p00)), (3, some (p01)), (4, some (p10)), (5, some (p11)), (6, o6), (7, o7), (8, o8), (9, o9), (10, some (((mkRat 0 1) + ((md an ad 2 0 0) * (p00))) + ((md an ad 2 0 1) * (p10)))), (11, some (((mkRat 0 1) + ((md an ad 2 0 0) * (p01))) + ((md an ad 2 0 1) * (p11)))), (12, some (((mkRat 0 1) + ((md an ad 2 1 0) * (p00))) + ((md an ad 2 1 1) * (p10)))), (13, some ((mkRat 0 1) + ((md an ad 2 1 0) * (p01)))), (20, some (md an ad 2 1 1)), (21, some ((md an ad 2 1 1) * (p11)))]) := FS.sub (by rw [lk_up] at hF; exact hF) ⟨rfl, rfl, rfl, rfl, rfl, rfl, rfl, rfl, rfl, rfl, rfl, rfl, rfl, rfl, rfl, rfl, trivial⟩
  rw [show (10 + 2 * 1 + 1 : Int32) = nI 13 from by decide]
  refine sp_add (d := 13) (a := 13) (b := 21) hF (by decide) (by decide) (by decide) (by decide) rfl rfl z25 z27 (by decide) ?_
  intro pi le sg wo hF
  have z28 : sz (((mkRat 0 1) + ((md an ad 2 1 0) * (p01))) + ((md an ad 2 1 1) * (p11))) 325 := sz_add z25 z27
  have hF : FS pi le sg (lk [(0, some (x0)), (1, some (x1)), (2, some (p00)), (3, some (p01)), (4, some (p10)), (5, some (p11)), (6, o6), (7, o7), (8, o8), (9, o9), (10, some (((mkRat 0 1) + ((md an ad 2 0 0) * (p00))) + ((md an ad 2 0 1) * (p10)))), (11, some (((mkRat 0 1) + ((md an ad 2 0 0) * (p01))) + ((md an ad 2 0 1) * (p11)))), (12, some (((mkRat 0 1) + ((md an ad 2 1 0) * (p00))) + ((md an ad 2 1 1) * (p10)))), (13, some (((mkRat 0 1) + ((md an ad 2 1 0) * (p01))) + ((md an ad 2 1 1) * (p11)))), (20, some (md an ad 2 1 1)), (21, some ((md an ad 2 1 1) * (p11)))]) := FS.sub (by rw [lk_up] at hF; exact hF) ⟨rfl, rfl, rfl, rfl, rfl, rfl, rfl, rfl, rfl, rfl, rfl, rfl, rfl, rfl, rfl, rfl, trivial⟩
  intro x9 e9
  obtain rfl : x9 = 2 := by rw [e9]; decide
  rw [wl_X7_doPredict_36]
  refine ⟨fun _ => ?_, fun hc => absurd (by decide) hc⟩
  intro x9 e9
  obtain rfl : x9 = 2 := by rw [e9]; decide
  rw [wl_X7_doPredict_12]
  refine ⟨fun _ => ?_, fun hc => absurd (by decide) hc⟩
  intro x9 e9
  obtain rfl : x9 = 2 := by rw [e9]; decide
  rw [wl_X7_doPredict_2]
  refine ⟨fun _ => ?_, fun hc => absurd (by decide) hc⟩
  refine ⟨3 + 1, ?_⟩
  rw [wl_X7_doPredict_109]
  refine ⟨fun hc => absurd hc (by decide), fun _ => ?_⟩
  refine ⟨3 + 1, ?_⟩
  rw [wl_X7_doPredict_119]
  refine ⟨fun hc => absurd hc (by decide), fun _ => ?_⟩
  refine sp_md (f := 14) (p := 4) (i := 0) (j := 0) hM hF (by decide) (by decide) ?_
  intro pi le sg wo hF
  have z29 : sz (md an ad 4 0 0) 1 := sz_md hM (by decide)
  have hF : FS pi le sg (lk [(0, some (x0)), (1, some (x1)), (2, some (p00)), (3, some (p01)), (4, some (p10)), (5, some (p11)), (6, o6), (7, o7), (8, o8), (9, o9), (10, some (((mkRat 0 1) + ((md an ad 2 0 0) * (p00))) + ((md an ad 2 0 1) * (p10)))), (11, some (((mkRat 0 1) + ((md an ad 2 0 0) * (p01))) + ((md an ad 2 0 1) * (p11)))), (12, some (((mkRat 0 1) + ((md an ad 2 1 0) * (p00))) + ((md an ad 2 1 1) * (p10)))), (13, some (((mkRat 0 1) + ((md an ad 2 1 0) * (p01))) + ((md an ad 2 1 1) * (p11)))), (14, some (md an ad 4 0 0)), (20, some (md an ad 2 1 1)), (21, some ((md an ad 2 1 1) * (p11)))]) := FS.sub (by rw [lk_up] at hF; exact hF) ⟨rfl, rfl, rfl, rfl, rfl, rfl, rfl, rfl, rfl, rfl, rfl, rfl, rfl, rfl, rfl, rfl, rfl, trivial⟩
  refine ⟨3 + 1, ?_⟩
  rw [wl_X7_doPredict_138]
  refine ⟨fun hc => absurd hc (by decide), fun _ => ?_⟩
  refine sp_md (f := 20) (p := 2) (i := 0) (j := 0) hM hF (by decide) (by decide) ?_
  intro pi le sg wo hF
  have z30 : sz (md an ad 2 0 0) 1 := sz_md hM (by decide)
  have hF : FS pi le sg (lk [(0, some (x0)), (1, some (x1)), (2, some (p00)), (3, some (p01)), (4, some (p10)), (5, some (p11)), (6, o6), (7, o7), (8, o8), (9, o9), (10, some (((mkRat 0 1) + ((md an ad 2 0 0) * (p00))) + ((md an ad 2 0 1) * (p10)))), (11, some (((mkRat 0 1) + ((md an ad 2 0 0) * (p01))) + ((md an ad 2 0 1) * (p11)))), (12, some (((mkRat 0 1) + ((md an ad 2 1 0) * (p00))) + ((md an ad 2 1 1) * (p10)))), (13, some (((mkRat 0 1) + ((md an ad 2 1 0) * (p01))) + ((md an ad 2 1 1) * (p11)))), (14, some (md an ad 4 0 0)), (20, some (md an ad 2 0 0)), (21, some ((md an ad 2 1 1) * (p11)))]) := FS.sub (by rw [lk_up] at hF; exact hF) ⟨rfl, rfl, rfl, rfl, rfl, rfl, rfl, rfl, rfl, rfl, rfl, rfl, rfl, rfl, rfl, rfl, rfl, trivial⟩
  rw [show (10 + 2 * 0 + 0 : Int32) = nI 10 from by decide]
  refine sp_multiply (d := 21) (a := 10) (b := 20) hF (by decide) (by decide) (by decide) (by decide) (by decide) rfl rfl z7 z30 (by decide) ?_
  intro pi le sg wo hF
  have z31 : sz ((((mkRat 0 1) + ((md an ad 2 0 0) * (p00))) + ((md an ad 2 0 1) * (p10))) * (md an ad 2 0 0)) 326 := sz_mul z7 z30
  have hF : FS pi le sg (lk [(0, some (x0)), (1, some (x1)), (2, some (p00)), (3, some (p01)), (4, some (p10)), (5, some (p11)), (6, o6), (7, o7), (8, o8), (9, o9), (10, some (((mkRat 0 1) + ((md an ad 2 0 0) * (p00))) + ((md an ad 2 0 1) * (p10)))), (11, some (((mkRat 0 1) + ((md an ad 2 0 0) * (p01))) + ((md an ad 2 0 1) * (p11)))), (12, some (((mkRat 0 1) + ((md an ad 2 1 0) * (p00))) + ((md an ad 2 1 1) * (p10)))), (13, some (((mkRat 0 1) + ((md an ad 2 1 0) * (p01))) + ((md an ad 2 1 1) * (p11)))), (14, some (md an ad 4 0 0)), (20, some (md an ad 2 0 0)), (21, some ((((mkRat 0 1) + ((md an ad 2 0 0) * (p00))) + ((md an ad 2 0 1) * (p10))) * (md an ad 2 0 0)))]) := FS.sub (by rw [lk_up] at hF; exact hF) ⟨rfl, rfl, rfl, rfl, rfl, rfl, rfl, rfl, rfl, rfl, rfl, rfl, rfl, rfl, rfl, rfl, rfl, trivial⟩
  refine sp_add (d := 14) (a := 14) (b := 21) hF (by decide) (by decide) (by decide) (by decide) rfl rfl z29 z31 (by decide) ?_
  intro pi le sg wo hF
  have z32 : sz ((md an ad 4 0 0) + ((((mkRat 0 1) + ((md an ad 2 0 0) * (p00))) + ((md an ad 2 0 1) * (p10))) * (md an ad 2 0 0))) 328 := sz_add z29 z31
  have hF : FS pi le sg (lk [(0, some (x0)), (1, some (x1)), (2, some (p00)), (3, some (p01)), (4, some (p10)), (5, some (p11)), (6, o6), (7, o7), (8, o8), (9, o9), (10, some (((mkRat 0 1) + ((md an ad 2 0 0) * (p00))) + ((md an ad 2 0 1) * (p10)))), (11, some (((mkRat 0 1) + ((md an ad 2 0 0) * (p01))) + ((md an ad 2 0 1) * (p11)))), (12, some (((mkRat 0 1) + ((md an ad 2 1 0) * (p00))) + ((md an ad 2 1 1) * (p10)))), (13, some (((mkRat 0 1) + ((md an ad 2 1 0) * (p01))) + ((md an ad 2 1 1) * (p11)))), (14, some ((md an ad 4 0 0) + ((((mkRat 0 1) + ((md an ad 2 0 0) * (p00))) + ((md an ad 2 0 1) * (p10))) * (md an ad 2 0 0)))), (20, some (md an ad 2 0 0)), (21, some ((((mkRat 0 1) + ((md an ad 2 0 0) * (p00))) + ((md an ad 2 0 1) * (p10))) * (md an ad 2 0 0)))]) := FS.sub (by rw [lk_up] at hF; exact hF) ⟨rfl, rfl, rfl, rfl, rfl, rfl, rfl, rfl, rfl, rfl, rfl, rfl, rfl, rfl, rfl, rfl, rfl, trivial⟩
  intro x9 e9
  obtain rfl : x9 = 1 := by rw [e9]; decide
  rw [wl_X7_doPredict_138]
  refine ⟨fun hc => absurd hc (by decide), fun _ => ?_⟩
  refine sp_md (f := 20) (p := 2) (i := 0) (j := 1) hM hF (by decide) (by decide) ?_
  intro pi le sg wo hF
  have z33 : sz (md an ad 2 0 1) 1 := sz_md hM (by decide)
  have hF : FS pi le sg (lk [(0, some (x0)), (1, some (x1)), (2, some (p00)), (3, some (p01)), (4, some (p10)), (5, some (p11)), (6, o6), (7, o7), (8, o8), (9, o9), (10, some (((mkRat 0 1) + ((md an ad 2 0 0) * (p00))) + ((md an ad 2 0 1) * (p10)))), (11, some (((mkRat 0 1) + ((md an ad 2 0 0) * (p01))) + ((md an ad 2 0 1) * (p11)))), (12, some (((mkRat 0 1) + ((md an ad 2 1 0) * (p00))) + ((md an ad 2 1 1) * (p10)))), (13, some (((mkRat 0 1) + ((md an ad 2 1 0) * (p01))) + ((md an ad 2 1 1) * (p11)))), (14, some ((md an ad 4 0 0) + ((((mkRat 0 1) + ((md an ad 2 0 0) * (p00))) + ((md an ad 2 0 1) * (p10))) * (md an ad 2 0 0)))), (20, some (md an ad 2 0 1)), (21, some ((((mkRat 0 1) + ((md an ad 2 0 0) * (p00))) + ((md an ad 2 0 1) * (p10))) * (md an ad 2 0 0)))]) := FS.sub (by rw [lk_up] at hF; exact hF) ⟨rfl, rfl, rfl, rfl, rfl, rfl, rfl, rfl, rfl, rfl, rfl, rfl, rfl, rfl, rfl, rfl, rfl, trivial⟩
  rw [show (10 + 2 * 0 + 1 : Int32) = nI 11 from by decide]
  refine sp_multiply (d := 21) (a := 11) (b := 20) hF (by decide) (by decide) (by decide) (by decide) (by decide) rfl rfl z14 z33 (by decide) ?_
  intro pi le sg wo hF
  have z34 : sz ((((mkRat 0 1) + ((md an ad 2 0 0) * (p01))) + ((md an ad 2 0 1) * (p11))) * (md an ad 2 0 1)) 326 := sz_mul z14 z33
  have hF : FS pi le sg (lk [(0, some (x0)), (1, some (x1)), (2, some (p00)), (3, some (p01)), (4, some (p10)), (5, some (p11)), (6, o6), (7, o7), (8, o8), (9, o9), (10, some (((mkRat 0 1) + ((md an ad 2 0 0) * (p00))) + ((md an ad 2 0 1) * (p10)))), (11, some (((mkRat 0 1) + ((md an ad 2 0 0) * (p01))) + ((md an ad 2 0 1) * (p11)))), (12, some (((mkRat 0 1) + ((md an ad 2 1 0) * (p00))) + ((md an ad 2 1 1) * (p10)))), (13, some (((mkRat 0 1) + ((md an ad 2 1 0) * (p01))) + ((md an ad 2 1 1) * (p11)))), (14, some ((md an ad 4 0 0) + ((((mkRat 0 1) + ((md an ad 2 0 0) * (p00))) + ((md an ad 2 0 1) * (p10))) * (md an ad 2 0 0)))), (20, some (md an ad 2 0 1)), (21, some ((((mkRat 0 1) + ((md an ad 2 0 0) * (p01))) + ((md an ad 2 0 1) * (p11))) * (md an ad 2 0 1)))]) := FS.sub (by rw [lk_up] at hF; exact hF) ⟨rfl, rfl, rfl, rfl, rfl, rfl, rfl, rfl, rfl, rfl, rfl, rfl, rfl, rfl, rfl, rfl, rfl, trivial⟩
  refine sp_add (d := 14) (a := 14) (b := 21) hF (by decide) (by decide) (by decide) (by decide) rfl rfl z32 z34 (by decide) ?_
  intro pi le sg wo hF
  have z35 : sz (((md an ad 4 0 0) + ((((mkRat 0 1) + ((md an ad 2 0 0) * (p00))) + ((md an ad 2 0 1) * (p10))) * (md an ad 2 0 0))) + ((((mkRat 0 1) + ((md an ad 2 0 0) * (p01))) + ((md an ad 2 0 1) * (p11))) * (md an ad 2 0 1))) 655 := sz_add z32 z34
  have hF : FS pi le sg (lk [(0, some (x0)), (1, some (x1)), (2, some (p00)), (3, some (p01)), (4, some (p10)), (5, some (p11)), (6, o6), (7, o7), (8, o8), (9, o9), (10, some (((mkRat 0 1) + ((md an ad 2 0 0) * (p00))) + ((md an ad 2 0 1) * (p10)))), (11, some (((mkRat 0 1) + ((md an ad 2 0 0) * (p01))) + ((md an ad 2 0 1) * (p11)))), (12, some (((mkRat 0 1) + ((md an ad 2 1 0) * (p00))) + ((md an ad 2 1 1) * (p10)))), (13, some (((mkRat 0 1) + ((md an ad 2 1 0) * (p01))) + ((md an ad 2 1 1) * (p11)))), (14, some (((md an ad 4 0 0) + ((((mkRat 0 1) + ((md an ad 2 0 0) * (p00))) + ((md an ad 2 0 1) * (p10))) * (md an ad 2 0 0))) + ((((mkRat 0 1) + ((md an ad 2 0 0) * (p01))) + ((md an ad 2 0 1) * (p11))) * (md an ad 2 0 1)))), (20, some (md an ad 2 0 1)), (21, some ((((mkRat 0 1) + ((md an ad 2 0 0) * (p01))) + ((md an ad 2 0 1) * (p11))) * (md an ad 2 0 1)))]) := FS.sub (by rw [lk_up] at hF; exact hF) ⟨rfl, rfl, rfl, rfl, rfl, rfl, rfl, rfl, rfl, rfl, rfl, rfl, rfl, rfl, rfl, rfl, rfl, trivial⟩
  intro x9 e9
  obtain rfl : x9 = 2 := by rw [e9]; decide
  rw [wl_X7_doPredict_138]
  refine ⟨fun _ => ?_, fun hc => absurd (by decide) hc⟩
  rw [wp_X7_cov]
  rw [show (2 + 2 * 0 + 0 : Int32) = nI 2 from by decide]
  refine sp_same (d := 2) (a := 14) hF (by decide) (by decide) (by decide) rfl ?_
  intro pi le sg hF
  have z36 : sz (((md an ad 4 0 0) + ((((mkRat 0 1) + ((md an ad 2 0 0) * (p00))) + ((md an ad 2 0 1) * (p10))) * (md an ad 2 0 0))) + ((((mkRat 0 1) + ((md an ad 2 0 0) * (p01))) + ((md an ad 2 0 1) * (p11))) * (md an ad 2 0 1))) 655 := z35
  have hF : FS pi le sg (lk [(0, some (x0)), (1, some (x1)), (2, some (((md an ad 4 0 0) + ((((mkRat 0 1) + ((md an ad 2 0 0) * (p00))) + ((md an ad 2 0 1) * (p10))) * (md an ad 2 0 0))) + ((((mkRat 0 1) + ((md an ad 2 0 0) * (p01))) + ((md an ad 2 0 1) * (p11))) * (md an ad 2 0 1)))), (3, some (p01)), (4, some (p10)), (5, some (p11)), (6, o6), (7, o7), (8, o8), (9, o9), (10, some (((mkRat 0 1) + ((md an ad 2 0 0) * (p00))) + ((md an ad 2 0 1) * (p10)))), (11, some (((mkRat 0 1) + ((md an ad 2 0 0) * (p01))) + ((md an ad 2 0 1) * (p11)))), (12, some (((mkRat 0 1) + ((md an ad 2 1 0) * (p00))) + ((md an ad 2 1 1) * (p10)))), (13, some (((mkRat 0 1) + ((md an ad 2 1 0) * (p01))) + ((md an ad 2 1 1) * (p11)))), (14, some (((md an ad 4 0 0) + ((((mkRat 0 1) + ((md an ad 2 0 0) * (p00))) + ((md an ad 2 0 1) * (p10))) * (md an ad 2 0 0))) + ((((mkRat 0 1) + ((md an ad 2 0 0) * (p01))) + ((md an ad 2 0 1) * (p11))) * (md an ad 2 0 1)))), (20, some (md an ad 2 0 1)), (21, some ((((mkRat 0 1) + ((md an ad 2 0 0) * (p01))) + ((md an ad 2 0 1) * (p11))) * (md an ad 2 0 1)))]) := FS.sub (by rw [lk_up] at hF; exact hF) ⟨rfl, rfl, rfl, rfl, rfl, rfl, rfl, rfl, rfl, rfl, rfl, rfl, rfl, rfl, rfl, rfl, rfl, trivial⟩
  intro x9 e9
  obtain rfl : x9 = 1 := by rw [e9]; decide
  rw [wl_X7_doPredict_119]
  refine ⟨fun hc => absurd hc (by decide), fun _ => ?_⟩
  refine sp_md (f := 14) (p := 4) (i := 0) (j := 1) hM hF (by decide) (by decide) ?_
  intro pi le sg wo hF
  have z37 : sz (md an ad 4 0 1) 1 := sz_md hM (by decide)
  have hF : FS pi le sg (lk [(0, some (x0)), (1, some (x1)), (2, some (((md an ad 4 0 0) + ((((mkRat 0 1) + ((md an ad 2 0 0) * (p00))) + ((md an ad 2 0 1) * (p10))) * (md an ad 2 0 0))) + ((((mkRat 0 1) + ((md an ad 2 0 0) * (p01))) + ((md an ad 2 0 1) * (p11))) * (md an ad 2 0 1)))), (3, some (p01)), (4, some (p10)), (5, some (p11)), (6, o6), (7, o7), (8, o8), (9, o9), (10, some (((mkRat 0 1) + ((md an ad 2 0 0) * (p00))) + ((md an ad 2 0 1) * (p10)))), (11, some (((mkRat 0 1) + ((md an ad 2 0 0) * (p01))) + ((md an ad 2 0 1) * (p11)))), (12, some (((mkRat 0 1) + ((md an ad 2 1 0) * (p00))) + ((md an ad 2 1 1) * (p10)))), (13, some (((mkRat 0 1) + ((md an ad 2 1 0) * (p01))) + ((md an ad 2 1 1) * (p11)))), (14, some (md an ad 4 0 1)), (20, some (md an ad 2 0 1)), (21, some ((((mkRat 0 1) + ((md an ad 2 0 0) * (p01))) + ((md an ad 2 0 1) * (p11))) * (md an ad 2 0 1)))]) := FS.sub (by rw [lk_up] at hF; exact hF) ⟨rfl, rfl, rfl, rfl, rfl, rfl, rfl, rfl, rfl, rfl, rfl, rfl, rfl, rfl, rfl, rfl, rfl, trivial⟩
  refine ⟨3 + 1, ?_⟩
  rw [wl_X7_doPredict_138]
  refine ⟨fun hc => absurd hc (by decide), fun _ => ?_⟩
  refine sp_md (f := 20) (p := 2) (i := 1) (j := 0) hM hF (by decide) (by decide) ?_
  intro pi le sg wo hF
  have z38 : sz (md an ad 2 1 0) 1 := sz_md hM (by decide)
  have hF : FS pi le sg (lk [(0, some (x0)), (1, some (x1)), (2, some (((md an ad 4 0 0) + ((((mkRat 0 1) + ((md an ad 2 0 0) * (p00))) + ((md an ad 2 0 1) * (p10))) * (md an ad 2 0 0))) + ((((mkRat 0 1) + ((md an ad 2 0 0) * (p01))) + ((md an ad 2 0 1) * (p11))) * (md an ad 2 0 1)))), (3, some (p01)), (4, some (p10)), (5, some (p11)), (6, o6), (7, o7), (8, o8), (9, o9), (10, some (((mkRat 0 1) + ((md an ad 2 0 0) * (p00))) + ((md an ad 2 0 1) * (p10)))), (11, some (((mkRat 0 1) + ((md an ad 2 0 0) * (p01))) + ((md an ad 2 0 1) * (p11)))), (12, some (((mkRat 0 1) + ((md an ad 2 1 0) * (p00))) + ((md an ad 2 1 1) * (p10)))), (13, some (((mkRat 0 1) + ((md an ad 2 1 0) * (p01))) + ((md an ad 2 1 1) * (p11)))), (14, some (md an ad 4 0 1)), (20, some (md an ad 2 1 0)), (21, some ((((mkRat 0 1) + ((md an ad 2 0 0) * (p01))) + ((md an ad 2 0 1) * (p11))) * (md an ad 2 0 1)))]) := FS.sub (by rw [lk_up] at hF; exact hF) ⟨rfl, rfl, rfl, rfl, rfl, rfl, rfl, rfl, rfl, rfl, rfl, rfl, rfl, rfl, rfl, rfl, rfl, trivial⟩
  rw [show (10 + 2 * 0 + 0 : Int32) = nI 10 from by decide]
  refine sp_multiply (d := 21) (a := 10) (b := 20) hF (by decide) (by decide) (by decide) (by decide) (by decide) rfl rfl z7 z38 (by decide) ?_
  intro pi le sg wo hF
  have z39 : sz ((((mkRat 0 1) + ((md an ad 2 0 0) * (p00))) + ((md an ad 2 0 1) * (p10))) * (md an ad 2 1 0)) 326 := sz_mul z7 z38
  have hF : FS pi le sg (lk [(0, some (x0)), (1, some (x1)), (2, some (((md an ad 4 0 0) + ((((mkRat 0 1) + ((md an ad 2 0 0) * (p00))) + ((md an ad 2 0 1) * (p10))) * (md an ad 2 0 0))) + ((((mkRat 0 1) + ((md an ad 2 0 0) * (p01))) + ((md an ad 2 0 1) * (p11))) * (md an ad 2 0 1)))), (3, some (p01)), (4, some (p10)), (5, some (p11)), (6, o6), (7, o7), (8, o8), (9, o9), (10, some (((mkRat 0 1) + ((md an ad 2 0 0) * (p00))) + ((md an ad 2 0 1) * (p10)))), (11, some (((mkRat 0 1) + ((md an ad 2 0 0) * (p01))) + ((md an ad 2 0 1) * (p11)))), (12, some (((mkRat 0 1) + ((md an ad 2 1 0) * (p00))) + ((md an ad 2 1 1) * (p10)))), (13, some (((mkRat 0 1) + ((md an ad 2 1 0) * (p01))) + ((md an ad 2 1 1) * (p11)))), (14, some (md an ad 4 0 1)), (20, some (md an ad 2 1 0)), (21, some ((((mkRat 0 1) + ((md an ad 2 0 0) * (p00))) + ((md an ad 2 0 1) * (p10))) * (md an ad 2 1 0)))]) := FS.sub (by rw [lk_up] at hF; exact hF) ⟨rfl, rfl, rfl, rfl, rfl, rfl, rfl, rfl, rfl, rfl, rfl, rfl, rfl, rfl, rfl, rfl, rfl, trivial⟩
  refine sp_add (d := 14) (a := 14) (b := 21) hF (by decide) (by decide) (by decide) (by decide) rfl rfl z37 z39 (by decide) ?_
  intro pi le sg wo hF
  have z40 : sz ((md an ad 4 0 1) + ((((mkRat 0 1) + ((md an ad 2 0 0) * (p00))) + ((md an ad 2 0 1) * (p10))) * (md an ad 2 1 0))) 328 := sz_add z37 z39
  have hF : FS pi le sg (lk [(0, some (x0)), (1, some (x1)), (2, some (((md an ad 4 0 0) + ((((mkRat 0 1) + ((md an ad 2 0 0) * (p00))) + ((md an ad 2 0 1) * (p10))) * (md an ad 2 0 0))) + ((((mkRat 0 1) + ((md an ad 2 0 0) * (p01))) + ((md an ad 2 0 1) * (p11))) * (md an ad 2 0 1)))), (3, some (p01)), (4, some (p10)), (5, some (p11)), (6, o6), (7, o7), (8, o8), (9, o9), (10, some (((mkRat 0 1) + ((md an ad 2 0 0) * (p00))) + ((md an ad 2 0 1) * (p10)))), (11, some (((mkRat 0 1) + ((md an ad 2 0 0) * (p01))) + ((md an ad 2 0 1) * (p11)))), (12, some (((mkRat 0 1) + ((md an ad 2 1 0) * (p00))) + ((md an ad 2 1 1) * (p10)))), (13, some (((mkRat 0 1) + ((md an ad 2 1 0) * (p01))) + ((md an ad 2 1 1) * (p11)))), (14, some ((md an ad 4 0 1) + ((((mkRat 0 1) + ((md an ad 2 0 0) * (p00))) + ((md an ad 2 0 1) * (p10))) * (md an ad 2 1 0)))), (20, some (md an ad 2 1 0)), (21, some ((((mkRat 0 1) + ((md an ad 2 0 0) * (p00))) + ((md an ad 2 0 1) * (p10))) * (md an ad 2 1 0)))]) := FS.sub (by rw [lk_up] at hF; exact hF) ⟨rfl, rfl, rfl, rfl, rfl, rfl, rfl, rfl, rfl, rfl, rfl, rfl, rfl, rfl, rfl, rfl, rfl, trivial⟩
  intro x9 e9
  obtain rfl : x9 = 1 := by rw [e9]; decide
  rw [wl_X7_doPredict_138]
  refine ⟨fun hc => absurd hc (by decide), fun _ => ?_⟩
  refine sp_md (f := 20) (p := 2) (i := 1) (j := 1) hM hF (by decide) (by decide) ?_
  intro pi le sg wo hF
  have z41 : sz (md an ad 2 1 1) 1 := sz_md hM (by decide)
  have hF : FS pi le sg (lk [(0, some (x0)), (1, some (x1)), (2, some (((md an ad 4 0 0) + ((((mkRat 0 1) + ((md an ad 2 0 0) * (p00))) + ((md an ad 2 0 1) * (p10))) * (md an ad 2 0 0))) + ((((mkRat 0 1) + ((md an ad 2 0 0) * (p01))) + ((md an ad 2 0 1) * (p11))) * (md an ad 2 0 1)))), (3, some (p01)), (4, some (p10)), (5, some (p11)), (6, o6), (7, o7), (8, o8), (9, o9), (10, some (((mkRat 0 1) + ((md an ad 2 0 0) * (p00))) + ((md an ad 2 0 1) * (p10)))), (11, some (((mkRat 0 1) + ((md an ad 2 0 0) * (p01))) + ((md an ad 2 0 1) * (p11)))), (12, some (((mkRat 0 1) + ((md an ad 2 1 0) * (p00))) + ((md an ad 2 1 1) * (p10)))), (13, some (((mkRat 0 1) + ((md an ad 2 1 0) * (p01))) + ((md an ad 2 1 1) * (p11)))), (14, some ((md an ad 4 0 1) + ((((mkRat 0 1) + ((md an ad 2 0 0) * (p00))) + ((md an ad 2 0 1) * (p10))) * (md an ad 2 1 0)))), (20, some (md an ad 2 1 1)), (21, some ((((mkRat 0 1) + ((md an ad 2 0 0) * (p00))) + ((md an ad 2 0 1) * (p10))) * (md an ad 2 1 0)))]) := FS.sub (by rw [lk_up] at hF; exact hF) ⟨rfl, rfl, rfl, rfl, rfl, rfl, rfl, rfl, rfl, rfl, rfl, rfl, rfl, rfl, rfl, rfl, rfl, trivial⟩
  rw [show (10 + 2 * 0 + 1 : Int32) = nI 11 from by decide]
  refine sp_multiply (d := 21) (a := 11) (b := 20) hF (by decide) (by decide) (by decide) (by decide) (by decide) rfl rfl z14 z41 (by decide) ?_
  intro pi le sg wo hF
  have z42 : sz ((((mkRat 0 1) + ((md an ad 2 0 0) * (p01))) + ((md an ad 2 0 1) * (p11))) * (md an ad 2 1 1)) 326 := sz_mul z14 z41
  have hF : FS pi le sg (lk [(0, some (x0)), (1, some (x1)), (2, some (((md an ad 4 0 0) + ((((mkRat 0 1) + ((md an ad 2 0 0) * (p00))) + ((md an ad 2 0 1) * (p10))) * (md an ad 2 0 0))) + ((((mkRat 0 1) + ((md an ad 2 0 0) * (p01))) + ((md an ad 2 0 1) * (p11))) * (md an ad 2 0 1)))), (3, some (p01)), (4, some (p10)), (5, some (p11)), (6, o6), (7, o7), (8, o8), (9, o9), (10, some (((mkRat 0 1) + ((md an ad 2 0 0) * (p00))) + ((md an ad 2 0 1) * (p10)))), (11, some (((mkRat 0 1) + ((md an ad 2 0 0) * (p01))) + ((md an ad 2 0 1) * (p11)))), (12, some (((mkRat 0 1) + ((md an ad 2 1 0) * (p00))) + ((md an ad 2 1 1) * (p10)))), (13, some (((mkRat 0 1) + ((md an ad 2 1 0) * (p01))) + ((md an ad 2 1 1) * (p11)))), (14, some ((md an ad 4 0 1) + ((((mkRat 0 1) + ((md an ad 2 0 0) * (p00))) + ((md an ad 2 0 1) * (p10))) * (md an ad 2 1 0)))), (20, some (md an ad 2 1 1)), (21, some ((((mkRat 0 1) + ((md an ad 2 0 0) * (p01))) + ((md an ad 2 0 1) * (p11))) * (md an ad 2 1 1)))]) := FS.sub (by rw [lk_up] at hF; exact hF) ⟨rfl, rfl, rfl, rfl, rfl, rfl, rfl, rfl, rfl, rfl, rfl, rfl, rfl, rfl, rfl, rfl, rfl, trivial⟩
  refine sp_add (d := 14) (a := 14) (b := 21) hF (by decide) (by decide) (by decide) (by decide) rfl rfl z40 z42 (by decide) ?_
  intro pi le sg wo hF
  have z43 : sz (((md an ad 4 0 1) + ((((mkRat 0 1) + ((md an ad 2 0 0) * (p00))) + ((md an ad 2 0 1) * (p10))) * (md an ad 2 1 0))) + ((((mkRat 0 1) + ((md an ad 2 0 0) * (p01))) + ((md an ad 2 0 1) * (p11))) * (md an ad 2 1 1))) 655 := sz_add z40 z42
  have hF : FS pi le sg (lk [(0, some (x0)), (1, some (x1)), (2, some (((md an ad 4 0 0) + ((((mkRat 0 1) + ((md an ad 2 0 0) * (p00))) + ((md an ad 2 0 1) * (p10))) * (md an ad 2 0 0))) + ((((mkRat 0 1) + ((md an ad 2 0 0) * (p01))) + ((md an ad 2 0 1) * (p11))) * (md an ad 2 0 1)))), (3, some (p01)), (4, some (p10)), (5, some (p11)), (6, o6), (7, o7), (8, o8), (9, o9), (10, some (((mkRat 0 1) + ((md an ad 2 0 0) * (p00))) + ((md an ad 2 0 1) * (p10)))), (11, some (((mkRat 0 1) + ((md an ad 2 0 0) * (p01))) + ((md an ad 2 0 1) * (p11)))), (12, some (((mkRat 0 1) + ((md an ad 2 1 0) * (p00))) + ((md an ad 2 1 1) * (p10)))), (13, some (((mkRat 0 1) + ((md an ad 2 1 0) * (p01))) + ((md an ad 2 1 1) * (p11)))), (14, some (((md an ad 4 0 1) + ((((mkRat 0 1) + ((md an ad 2 0 0) * (p00))) + ((md an ad 2 0 1) * (p10))) * (md an ad 2 1 0))) + ((((mkRat 0 1) + ((md an ad 2 0 0) * (p01))) + ((md an ad 2 0 1) * (p11))) * (md an ad 2 1 1)))), (20, some (md an ad 2 1 1)), (21, some ((((mkRat 0 1) + ((md an ad 2 0 0) * (p01))) + ((md an ad 2 0 1) * (p11))) * (md an ad 2 1 1)))]) := FS.sub (by rw [lk_up] at hF; exact hF) ⟨rfl, rfl, rfl, rfl, rfl, rfl, rfl, rfl, rfl, rfl, rfl, rfl, rfl, rfl, rfl, rfl, rfl, trivial⟩
  intro x9 e9
  obtain rfl : x9 = 2 := by rw [e9]; decide
  rw [wl_X7_doPredict_138]
  refine ⟨fun _ => ?_, fun hc => absurd (by decide) hc⟩
  rw [wp_X7_cov]
  rw [show (2 + 2 * 0 + 1 : Int32) = nI 3 from by decide]
  refine sp_same (d := 3) (a := 14) hF (by decide) (by decide) (by decide) rfl ?_
  intro pi le sg hF
  have z44 : sz (((md an ad 4 0 1) + ((((mkRat 0 1) + ((md an ad 2 0 0) * (p00))) + ((md an ad 2 0 1) * (p10))) * (md an ad 2 1 0))) + ((((mkRat 0 1) + ((md an ad 2 0 0) * (p01))) + ((md an ad 2 0 1) * (p11))) * (md an ad 2 1 1))) 655 := z43
  have hF : FS pi le sg (lk [(0, some (x0)), (1, some (x1)), (2, some (((md an ad 4 0 0) + ((((mkRat 0 1) + ((md an ad 2 0 0) * (p00))) + ((md an ad 2 0 1) * (p10))) * (md an ad 2 0 0))) + ((((mkRat 0 1) + ((md an ad 2 0 0) * (p01))) + ((md an ad 2 0 1) * (p11))) * (md an ad 2 0 1)))), (3, some (((md an ad 4 0 1) + ((((mkRat 0 1) + ((md an ad 2 0 0) * (p00))) + ((md an ad 2 0 1) * (p10))) * (md an ad 2 1 0))) + ((((mkRat 0 1) + ((md an ad 2 0 0) * (p01))) + ((md an ad 2 0 1) * (p11))) * (md an ad 2 1 1)))), (4, some (p10)), (5, some (p11)), (6, o6), (7, o7), (8, o8), (9, o9), (10, some (((mkRat 0 1) + ((md an ad 2 0 0) * (p00))) + ((md an ad 2 0 1) * (p10)))), (11, some (((mkRat 0 1) + ((md an ad 2 0 0) * (p01))) + ((md an ad 2 0 1) * (p11)))), (12, some (((mkRat 0 1) + ((md an ad 2 1 0) * (p00))) + ((md an ad 2 1 1) * (p10)))), (13, some (((mkRat 0 1) + ((md an ad 2 1 0) * (p01))) + ((md an ad 2 1 1) * (p11)))), (14, some (((md an ad 4 0 1) + ((((mkRat 0 1) + ((md an ad 2 0 0) * (p00))) + ((md an ad 2 0 1) * (p10))) * (md an ad 2 1 0))) + ((((mkRat 0 1) + ((md an ad 2 0 0) * (p01))) + ((md an ad 2 0 1) * (p11))) * (md an ad 2 1 1)))), (20, some (md an ad 2 1 1)), (21, some ((((mkRat 0 1) + ((md an ad 2 0 0) * (p01))) + ((md an ad 2 0 1) * (p11))) * (md an ad 2 1 1)))]) := FS.sub (by rw [lk_up] at hF; exact hF) ⟨rfl, rfl, rfl, rfl, rfl, rfl, rfl, rfl, rfl, rfl, rfl, rfl, rfl, rfl, rfl, rfl, rfl, trivial⟩
  intro x9 e9
  obtain rfl : x9 = 2 := by rw [e9]; decide
  rw [wl_X7_doPredict_119]
  refine ⟨fun _ => ?_, fun hc => absurd (by decide) hc⟩
  intro x9 e9
  obtain rfl : x9 = 1 := by rw [e9]; decide
  rw [wl_X7_doPredict_109]
  refine ⟨fun hc => absurd hc (by decide), fun _ => ?_⟩
  refine ⟨3 + 1, ?_⟩
  rw [wl_X7_doPredict_119]
  refine ⟨fun hc => absurd hc (by decide), fun _ => ?_⟩
  refine sp_md (f := 14) (p := 4) (i := 1) (j := 0) hM hF (by decide) (by decide) ?_
  intro pi le sg wo hF
  have z45 : sz (md an ad 4 1 0) 1 := sz_md hM (by decide)
  have hF : FS pi le sg (lk [(0, some (x0)), (1, some (x1)), (2, some (((md an ad 4 0 0) + ((((mkRat 0 1) + ((md an ad 2 0 0) * (p00))) + ((md an ad 2 0 1) * (p10))) * (md an ad 2 0 0))) + ((((mkRat 0 1) + ((md an ad 2 0 0) * (p01))) + ((md an ad 2 0 1) * (p11))) * (md an ad 2 0 1)))), (3, some (((md an ad 4 0 1) + ((((mkRat 0 1) + ((md an ad 2 0 0) * (p00))) + ((md an ad 2 0 1) * (p10))) * (md an ad 2 1 0))) + ((((mkRat 0 1) + ((md an ad 2 0 0) * (p01))) + ((md an ad 2 0 1) * (p11))) * (md an ad 2 1 1)))), (4, some (p10)), (5, some (p11)), (6, o6), (7, o7), (8, o8), (9, o9), (10, some (((mkRat 0 1) + ((md an ad 2 0 0) * (p00))) + ((md an ad 2 0 1) * (p10)))), (11, some (((mkRat 0 1) + ((md an ad 2 0 0) * (p01))) + ((md an ad 2 0 1) * (p11)))), (12, some (((mkRat 0 1) + ((md an ad 2 1 0) * (p00))) + ((md an ad 2 1 1) * (p10)))), (13, some (((mkRat 0 1) + ((md an ad 2 1 0) * (p01))) + ((md an ad 2 1 1) * (p11)))), (14, some (md an ad 4 1 0)), (20, some (md an ad 2 1 1)), (21, some ((((mkRat 0 1) + ((md an ad 2 0 0) * (p01))) + ((md an ad 2 0 1) * (p11))) * (md an ad 2 1 1)))]) := FS.sub (by rw [lk_up] at hF; exact hF) ⟨rfl, rfl, rfl, rfl, rfl, rfl, rfl, rfl, rfl, rfl, rfl, rfl, rfl, rfl, rfl, rfl, rfl, trivial⟩
  refine ⟨3 + 1, ?_⟩
  rw [wl_X7_doPredict_138]
  refine ⟨fun hc => absurd hc (by decide), fun _ => ?_⟩
  refine sp_md (f := 20) (p := 2) (i := 0) (j := 0) hM hF (by decide) (by decide) ?_
  intro pi le sg wo hF
  have z46 : sz (md an ad 2 0 0) 1 := sz_md hM (by decide)
  have hF : FS pi le sg (lk [(0, some (x0)), (1, some (x1)), (2, some (((md an ad 4 0 0) + ((((mkRat 0 1) + ((md an ad 2 0 0) * (p00))) + ((md an ad 2 0 1) * (p10))) * (md an ad 2 0 0))) + ((((mkRat 0 1) + ((md an ad 2 0 0) * (p01))) + ((md an ad 2 0 1) * (p11))) * (md an ad 2 0 1)))), (3, some (((md an ad 4 0 1) + ((((mkRat 0 1) + ((md an ad 2 0 0) * (p00))) + ((md an ad 2 0 1) * (p10))) * (md an ad 2 1 0))) + ((((mkRat 0 1) + ((md an ad 2 0 0) * (p01))) + ((md an ad 2 0 1) * (p11))) * (md an ad 2 1 1)))), (4, some (p10)), (5, some (p11)), (6, o6), (7, o7), (8, o8), (9, o9), (10, some (((mkRat 0 1) + ((md an ad 2 0 0) * (p00))) + ((md an ad 2 0 1) * (p10)))), (11, some (((mkRat 0 1) + ((md an ad 2 0 0) * (p01))) + ((md an ad 2 0 1) * (p11)))), (12, some (((mkRat 0 1) + ((md an ad 2 1 0) * (p00))) + ((md an ad 2 1 1) * (p10)))), (13, some (((mkRat 0 1) + ((md an ad 2 1 0) * (p01))) + ((md an ad 2 1 1) * (p11)))), (14, some (md an ad 4 1 0)), (20, some (md an ad 2 0 0)), (21, some ((((mkRat 0 1) + ((md an ad 2 0 0) * (p01))) + ((md an ad 2 0 1) * (p11))) * (md an ad 2 1 1)))]) := FS.sub (by rw [lk_up] at hF; exact hF) ⟨rfl, rfl, rfl, rfl, rfl, rfl, rfl, rfl, rfl, rfl, rfl, rfl, rfl, rfl, rfl, rfl, rfl, trivial⟩
  rw [show (10 + 2 * 1 + 0 : Int32) = nI 12 from by decide]
  refine sp_multiply (d := 21) (a := 12) (b := 20) hF (by decide) (by decide) (by decide) (by decide) (by decide) rfl rfl z21 z46 (by decide) ?_
  intro pi le sg wo hF
  have z47 : sz ((((mkRat 0 1) + ((md an ad 2 1 0) * (p00))) + ((md an ad 2 1 1) * (p10))) * (md an ad 2 0 0)) 326 := sz_mul z21 z46
  have hF : FS pi le sg (lk [(0, some (x0)), (1, some (x1)), (2, some (((md an ad 4 0 0) + ((((mkRat 0 1) + ((md an ad 2 0 0) * (p00))) + ((md an ad 2 0 1) * (p10))) * (md an ad 2 0 0))) + ((((mkRat 0 1) + ((md an ad 2 0 0) * (p01))) + ((md an ad 2 0 1) * (p11))) * (md an ad 2 0 1)))), (3, some (((md an ad 4 0 1) + ((((mkRat 0 1) + ((md an ad 2 0 0) * (p00))) + ((md an ad 2 0 1) * (p10))) * (md an ad 2 1 0))) + ((((mkRat 0 1) + ((md an ad 2 0 0) * (p01))) + ((md an ad 2 0 1) * (p11))) * (md an ad 2 1 1)))), (4, some (p10)), (5, some (p11)), (6, o6), (7, o7), (8, o8), (9, o9), (10, some (((mkRat 0 1) + ((md an ad 2 0 0) * (p00))) + ((md an ad 2 0 1) * (p10)))), (11, some (((mkRat 0 1) + ((md an ad 2 0 0) * (p01))) + ((md an ad 2 0 1) * (p11)))), (12, some (((mkRat 0 1) + ((md an ad 2 1 0) * (p00))) + ((md an ad 2 1 1) * (p10)))), (13, some (((mkRat 0 1) + ((md an ad 2 1 0) * (p01))) + ((md an ad 2 1 1) * (p11)))), (14, some (md an ad 4 1 0)), (20, some (md an ad 2 0 0)), (21, some ((((mkRat 0 1) + ((md an ad 2 1 0) * (p00))) + ((md an ad 2 1 1) * (p10))) * (md an ad 2 0 0)))]) := FS.sub (by rw [lk_up] at hF; exact hF) ⟨rfl, rfl, rfl, rfl, rfl, rfl, rfl, rfl, rfl, rfl, rfl, rfl, rfl, rfl, rfl, rfl, rfl, trivial⟩
  refine sp_add (d := 14) (a := 14) (b := 21) hF (by decide) (by decide) (by decide) (by decide) rfl rfl z45 z47 (by decide) ?_
  intro pi le sg wo hF
  have z48 : sz ((md an ad 4 1 0) + ((((mkRat 0 1) + ((md an ad 2 1 0) * (p00))) + ((md an ad 2 1 1) * (p10))) * (md an ad 2 0 0))) 328 := sz_add z45 z47
  have hF : FS pi le sg (lk [(0, some (x0)), (1, some (x1)), (2, some (((md an ad 4 0 0) + ((((mkRat 0 1) + ((md an ad 2 0 0) * (p00))) + ((md an ad 2 0 1) * (p10))) * (md an ad 2 0 0))) + ((((mkRat 0 1) + ((md an ad 2 0 0) * (p01))) + ((md an ad 2 0 1) * (p11))) * (md an ad 2 0 1)))), (3, some (((md an ad 4 0 1) + ((((mkRat 0 1) + ((md an ad 2 0 0) * (p00))) + ((md an ad 2 0 1) * (p10))) * (md an ad 2 1 0))) + ((((mkRat 0 1) + ((md an ad 2 0 0) * (p01))) + ((md an ad 2 0 1) * (p11))) * (md an ad 2 1 1)))), (4, some (p10)), (5, some (p11)), (6, o6), (7, o7), (8, o8), (9, o9), (10, some (((mkRat 0 1) + ((md an ad 2 0 0) * (p00))) + ((md an ad 2 0 1) * (p10)))), (11, some (((mkRat 0 1) + ((md an ad 2 0 0) * (p01))) + ((md an ad 2 0 1) * (p11)))), (12, some (((mkRat 0 1) + ((md an ad 2 1 0) * (p00))) + ((md an ad 2 1 1) * (p10)))), (13, some (((mkRat 0 1) + ((md an ad 2 1 0) * (p01))) + ((md an ad 2 1 1) * (p11)))), (14, some ((md an ad 4 1 0) + ((((mkRat 0 1) + ((md an ad 2 1 0) * (p00))) + ((md an ad 2 1 1) * (p10))) * (md an ad 2 0 0)))), (20, some (md an ad 2 0 0)), (21, some ((((mkRat 0 1) + ((md an ad 2 1 0) * (p00))) + ((md an ad 2 1 1) * (p10))) * (md an ad 2 0 0)))]) := FS.sub (by rw [lk_up] at hF; exact hF) ⟨rfl, rfl, rfl, rfl, rfl, rfl, rfl, rfl, rfl, rfl, rfl, rfl, rfl, rfl, rfl, rfl, rfl, trivial⟩
  intro x9 e9
  obtain rfl : x9 = 1 := by rw [e9]; decide
  rw [wl_X7_doPredict_138]
  refine ⟨fun hc => absurd hc (by decide), fun _ => ?_⟩
  refine sp_md (f := 20) (p := 2) (i := 0) (j := 1) hM hF (by decide) (by decide) ?_
  intro pi le sg wo hF
  have z49 : sz (md an ad 2 0 1) 1 := sz_md hM (by decide)
  have hF : FS pi le sg (lk [(0, some (x0)), (1, some (x1)), (2, some (((md an ad 4 0 0) + ((((mkRat 0 1) + ((md an ad 2 0 0) * (p00))) + ((md an ad 2 0 1) * (p10))) * (md an ad 2 0 0))) + ((((mkRat 0 1) + ((md an ad 2 0 0) * (p01))) + ((md an ad 2 0 1) * (p11))) * (md an ad 2 0 1)))), (3, some (((md an ad 4 0 1) + ((((mkRat 0 1) + ((md an ad 2 0 0) * (p00))) + ((md an ad 2 0 1) * (p10))) * (md an ad 2 1 0))) + ((((mkRat 0 1) + ((md an ad 2 0 0) * (p01))) + ((md an ad 2 0 1) * (p11))) * (md an ad 2 1 1)))), (4, some (p10)), (5, some (p11)), (6, o6), (7, o7), (8, o8), (9, o9), (10, some (((mkRat 0 1) + ((md an ad 2 0 0) * (p00))) + ((md an ad 2 0 1) * (p10)))), (11, some (((mkRat 0 1) + ((md an ad 2 0 0) * (p01))) + ((md an ad 2 0 1) * (p11)))), (12, some (((mkRat 0 1) + ((md an ad 2 1 0) * (p00))) + ((md an ad 2 1 1) * (p10)))), (13, some (((mkRat 0 1) + ((md an ad 2 1 0) * (p01))) + ((md an ad 2 1 1) * (p11)))), (14, some ((md an ad 4 1 0) + ((((mkRat 0 1) + ((md an ad 2 1 0) * (p00))) + ((md an ad 2 1 1) * (p10))) * (md an ad 2 0 0)))), (20, some (md an ad 2 0 1)), (21, some ((((mkRat 0 1) + ((md an ad 2 1 0) * (p00))) + ((md an ad 2 1 1) * (p10))) * (md an ad 2 0 0)))]) := FS.sub (by rw [lk_up] at hF; exact hF) ⟨rfl, rfl, rfl, rfl, rfl, rfl, rfl, rfl, rfl, rfl, rfl, rfl, rfl, rfl, rfl, rfl, rfl, trivial⟩
  rw [show (10 + 2 * 1 + 1 : Int32) = nI 13 from by decide]
  refine sp_multiply (d := 21) (a := 13) (b := 20) hF (by decide) (by decide) (by decide) (by decide) (by decide) rfl rfl z28 z49 (by decide) ?_
  intro pi le sg wo hF
  have z50 : sz ((((mkRat 0 1) + ((md an ad 2 1 0) * (p01))) + ((md an ad 2 1 1) * (p11))) * (md an ad 2 0 1)) 326 := sz_mul z28 z49
  have hF : FS pi le sg (lk [(0, some (x0)), (1, some (x1)), (2, some (((md an ad 4 0 0) + ((((mkRat 0 1) + ((md an ad 2 0 0) * (p00))) + ((md an ad 2 0 1) * (p10))) * (md an ad 2 0 0))) + ((((mkRat 0 1) + ((md an ad 2 0 0) * (p01))) + ((md an ad 2 0 1) * (p11))) * (md an ad 2 0 1)))), (3, some (((md an ad 4 0 1) + ((((mkRat 0 1) + ((md an ad 2 0 0) * (p00))) + ((md an ad 2 0 1) * (p10))) * (md an ad 2 1 0))) + ((((mkRat 0 1) + ((md an ad 2 0 0) * (p01))) + ((md an ad 2 0 1) * (p11))) * (md an ad 2 1 1)))), (4, some (p10)), (5, some (p11)), (6, o6), (7, o7), (8, o8), (9, o9), (10, some (((mkRat 0 1) + ((md an ad 2 0 0) * (p00))) + ((md an ad 2 0 1) * (p10)))), (11, some (((mkRat 0 1) + ((md an ad 2 0 0) * (p01))) + ((md an ad 2 0 1) * (p11)))), (12, some (((mkRat 0 1) + ((md an ad 2 1 0) * (p00))) + ((md an ad 2 1 1) * (p10)))), (13, some (((mkRat 0 1) + ((md an ad 2 1 0) * (p01))) + ((md an ad 2 1 1) * (p11)))), (14, some ((md an ad 4 1 0) + ((((mkRat 0 1) + ((md an ad 2 1 0) * (p00))) + ((md an ad 2 1 1) * (p10))) * (md an ad 2 0 0)))), (20, some (md an ad 2 0 1)), (21, some ((((mkRat 0 1) + ((md an ad 2 1 0) * (p01))) + ((md an ad 2 1 1) * (p11))) * (md an ad 2 0 1)))]) := FS.sub (by rw [lk_up] at hF; exact hF) ⟨rfl, rfl, rfl, rfl, rfl, rfl, rfl, rfl, rfl, rfl, rfl, rfl, rfl, rfl, rfl, rfl, rfl, trivial⟩
  refine sp_add (d := 14) (a := 14) (b := 21) hF (by decide) (by decide) (by decide) (by decide) rfl rfl z48 z50 (by decide) ?_
  intro pi le sg wo hF
  have z51 : sz (((md an ad 4 1 0) + ((((mkRat 0 1) + ((md an ad 2 1 0) * (p00))) + ((md an ad 2 1 1) * (p10))) * (md an ad 2 0 0))) + ((((mkRat 0 1) + ((md an ad 2 1 0) * (p01))) + ((md an ad 2 1 1) * (p11))) * (md an ad 2 0 1))) 655 := sz_add z48 z50
  have hF : FS pi le sg (lk [(0, some (x0)), (1, some (x1)), (2, some (((md an ad 4 0 0) + ((((mkRat 0 1) + ((md an ad 2 0 0) * (p00))) + ((md an ad 2 0 1) * (p10))) * (md an ad 2 0 0))) + ((((mkRat 0 1) + ((md an ad 2 0 0) * (p01))) + ((md an ad 2 0 1) * (p11))) * (md an ad 2 0 1)))), (3, some (((md an ad 4 0 1) + ((((mkRat 0 1) + ((md an ad 2 0 0) * (p00))) + ((md an ad 2 0 1) * (p10))) * (md an ad 2 1 0))) + ((((mkRat 0 1) + ((md an ad 2 0 0) * (p01))) + ((md an ad 2 0 1) * (p11))) * (md an ad 2 1 1)))), (4, some (p10)), (5, some (p11)), (6, o6), (7, o7), (8, o8), (9, o9), (10, some (((mkRat 0 1) + ((md an ad 2 0 0) * (p00))) + ((md an ad 2 0 1) * (p10)))), (11, some (((mkRat 0 1) + ((md an ad 2 0 0) * (p01))) + ((md an ad 2 0 1) * (p11)))), (12, some (((mkRat 0 1) + ((md an ad 2 1 0) * (p00))) + ((md an ad 2 1 1) * (p10)))), (13, some (((mkRat 0 1) + ((md an ad 2 1 0) * (p01))) + ((md an ad 2 1 1) * (p11)))), (14, some (((md an ad 4 1 0) + ((((mkRat 0 1) + ((md an ad 2 1 0) * (p00))) + ((md an ad 2 1 1) * (p10))) * (md an ad 2 0 0))) + ((((mkRat 0 1) + ((md an ad 2 1 0) * (p01))) + ((md an ad 2 1 1) * (p11))) * (md an ad 2 0 1)))), (20, some (md an ad 2 0 1)), (21, some ((((mkRat 0 1) + ((md an ad 2 1 0) * (p01))) + ((md an ad 2 1 1) * (p11))) * (md an ad 2 0 1)))]) := FS.sub (by rw [lk_up] at hF; exact hF) ⟨rfl, rfl, rfl, rfl, rfl, rfl, rfl, rfl, rfl, rfl, rfl, rfl, rfl, rfl, rfl, rfl, rfl, trivial⟩
  intro x9 e9
  obtain rfl : x9 = 2 := by rw [e9]; decide
  rw [wl_X7_doPredict_138]
  refine ⟨fun _ => ?_, fun hc => absurd (by decide) hc⟩
  rw [wp_X7_cov]
  rw [show (2 + 2 * 1 + 0 : Int32) = nI 4 from by decide]
  refine sp_same (d := 4) (a := 14) hF (by decide) (by decide) (by decide) rfl ?_
  intro pi le sg hF
  have z52 : sz (((md an ad 4 1 0) + ((((mkRat 0 1) + ((md an ad 2 1 0) * (p00))) + ((md an ad 2 1 1) * (p10))) * (md an ad 2 0 0))) + ((((mkRat 0 1) + ((md an ad 2 1 0) * (p01))) + ((md an ad 2 1 1) * (p11))) * (md an ad 2 0 1))) 655 := z51
  have hF : FS pi le sg (lk [(0, some (x0)), (1, some (x1)), (2, some (((md an ad 4 0 0) + ((((mkRat 0 1) + ((md an ad 2 0 0) * (p00))) + ((md an ad 2 0 1) * (p10))) * (md an ad 2 0 0))) + ((((mkRat 0 1) + ((md an ad 2 0 0) * (p01))) + ((md an ad 2 0 1) * (p11))) * (md an ad 2 0 1)))), (3, some (((md an ad 4 0 1) + ((((mkRat 0 1) + ((md an ad 2 0 0) * (p00))) + ((md an ad 2 0 1) * (p10))) * (md an ad 2 1 0))) + ((((mkRat 0 1) + ((md an ad 2 0 0) * (p01))) + ((md an ad 2 0 1) * (p11))) * (md an ad 2 1 1)))), (4, some (((md an ad 4 1 0) + ((((mkRat 0 1) + ((md an ad 2 1 0) * (p00))) + ((md an ad 2 1 1) * (p10))) * (md an ad 2 0 0))) + ((((mkRat 0 1) + ((md an ad 2 1 0) * (p01))) + ((md an ad 2 1 1) * (p11))) * (md an ad 2 0 1)))), (5, some (p11)), (6, o6), (7, o7), (8, o8), (9, o9), (10, some (((mkRat 0 1) + ((md an ad 2 0 0) * (p00))) + ((md an ad 2 0 1) * (p10)))), (11, some (((mkRat 0 1) + ((md an ad 2 0 0) * (p01))) + ((md an ad 2 0 1) * (p11)))), (12, some (((mkRat 0 1) + ((md an ad 2 1 0) * (p00))) + ((md an ad 2 1 1) * (p10)))), (13, some (((mkRat 0 1) + ((md an ad 2 1 0) * (p01))) + ((md an ad 2 1 1) * (p11)))), (14, some (((md an ad 4 1 0) + ((((mkRat 0 1) + ((md an ad 2 1 0) * (p00))) + ((md an ad 2 1 1) * (p10))) * (md an ad 2 0 0))) + ((((mkRat 0 1) + ((md an ad 2 1 0) * (p01))) + ((md an ad 2 1 1) * (p11))) * (md an ad 2 0 1)))), (20, some (md an ad 2 0 1)), (21, some ((((mkRat 0 1) + ((md an ad 2 1 0) * (p01))) + ((md an ad 2 1 1) * (p11))) * (md an ad 2 0 1)))]) := FS.sub (by rw [lk_up] at hF; exact hF) ⟨rfl, rfl, rfl, rfl, rfl, rfl, rfl, rfl, rfl, rfl, rfl, rfl, rfl, rfl, rfl, rfl, rfl, trivial⟩
  intro x9 e9
  obtain rfl : x9 = 1 := by rw [e9]; decide
  rw [wl_X7_doPredict_119]
  refine ⟨fun hc => absurd hc (by decide), fun _ => ?_⟩
  refine sp_md (f := 14) (p := 4) (i := 1) (j := 1) hM hF (by decide) (by decide) ?_
  intro pi le sg wo hF
  have z53 : sz (md an ad 4 1 1) 1 := sz_md hM (by decide)
  have hF : FS pi le sg (lk [(0, some (x0)), (1, some (x1)), (2, some (((md an ad 4 0 0) + ((((mkRat 0 1) + ((md an ad 2 0 0) * (p00))) + ((md an ad 2 0 1) * (p10))) * (md an ad 2 0 0))) + ((((mkRat 0 1) + ((md an ad 2 0 0) * (p01))) + ((md an ad 2 0 1) * (p11))) * (md an ad 2 0 1)))), (3, some (((md an ad 4 0 1) + ((((mkRat 0 1) + ((md an ad 2 0 0) * (p00))) + ((md an ad 2 0 1) * (p10))) * (md an ad 2 1 0))) + ((((mkRat 0 1) + ((md an ad 2 0 0) * (p01))) + ((md an ad 2 0 1) * (p11))) * (md an ad 2 1 1)))), (4, some (((md an ad 4 1 0) + ((((mkRat 0 1) + ((md an ad 2 1 0) * (p00))) + ((md an ad 2 1 1) * (p10))) * (md an ad 2 0 0))) + ((((mkRat 0 1) + ((md an ad 2 1 0) * (p01))) + ((md an ad 2 1 1) * (p11))) * (md an ad 2 0 1)))), (5, some (p11)), (6, o6), (7, o7), (8, o8), (9, o9), (10, some (((mkRat 0 1) + ((md an ad 2 0 0) * (p00))) + ((md an ad 2 0 1) * (p10)))), (11, some (((mkRat 0 1) + ((md an ad 2 0 0) * (p01))) + ((md an ad 2 0 1) * (p11)))), (12, some (((mkRat 0 1) + ((md an ad 2 1 0) * (p00))) + ((md an ad 2 1 1) * (p10)))), (13, some (((mkRat 0 1) + ((md an ad 2 1 0) * (p01))) + ((md an ad 2 1 1) * (p11)))), (14, some (md an ad 4 1 1)), (20, some (md an ad 2 0 1)), (21, some ((((mkRat 0 1) + ((md an ad 2 1 0) * (p01))) + ((md an ad 2 1 1) * (p11))) * (md an ad 2 0 1)))]) := FS.sub (by rw [lk_up] at hF; exact hF) ⟨rfl, rfl, rfl, rfl, rfl, rfl, rfl, rfl, rfl, rfl, rfl, rfl, rfl, rfl, rfl, rfl, rfl, trivial⟩
  refine ⟨3 + 1, ?_⟩
  rw [wl_X7_doPredict_138]
  refine ⟨fun hc => absurd hc (by decide), fun _ => ?_⟩
  refine sp_md (f := 20) (p := 2) (i := 1) (j := 0) hM hF (by decide) (by decide) ?_
  intro pi le sg wo hF
  have z54 : sz (md an ad 2 1 0) 1 := sz_md hM (by decide)
  have hF : FS pi le sg (lk [(0, some (x0)), (1, some (x1)), (2, some (((md an ad 4 0 0) + ((((mkRat 0 1) + ((md an ad 2 0 0) * (p00))) + ((md an ad 2 0 1) * (p10))) * (md an ad 2 0 0))) + ((((mkRat 0 1) + ((md an ad 2 0 0) * (p01))) + ((md an ad 2 0 1) * (p11))) * (md an ad 2 0 1)))), (3, some (((md an ad 4 0 1) + ((((mkRat 0 1) + ((md an ad 2 0 0) * (p00))) + ((md an ad 2 0 1) * (p10))) * (md an ad 2 1 0))) + ((((mkRat 0 1) + ((md an ad 2 0 0) * (p01))) + ((md an ad 2 0 1) * (p11))) * (md an ad 2 1 1)))), (4, some (((md an ad 4 1 0) + ((((mkRat 0 1) + ((md an ad 2 1 0) * (p00))) + ((md an ad 2 1 1) * (p10))) * (md an ad 2 0 0))) + ((((mkRat 0 1) + ((md an ad 2 1 0) * (p01))) + ((md an ad 2 1 1) * (p11))) * (md an ad 2 0 1)))), (5, some (p11)), (6, o6), (7, o7), (8, o8), (9, o9), (10, some (((mkRat 0 1) + ((md an ad 2 0 0) * (p00))) + ((md an ad 2 0 1) * (p10)))), (11, some (((mkRat 0 1) + ((md an ad 2 0 0) * (p01))) + ((md an ad 2 0 1) * (p11)))), (12, some (((mkRat 0 1) + ((md an ad 2 1 0) * (p00))) + ((md an ad 2 1 1) * (p10)))), (13, some (((mkRat 0 1) + ((md an ad 2 1 0) * (p01))) + ((md an ad 2 1 1) * (p11)))), (14, some (md an ad 4 1 1)), (20, some (md an ad 2 1 0)), (21, some ((((mkRat 0 1) + ((md an ad 2 1 0) * (p01))) + ((md an ad 2 1 1) * (p11))) * (md an ad 2 0 1)))]) := FS.sub (by rw [lk_up] at hF; exact hF) ⟨rfl, rfl, rfl, rfl, rfl, rfl, rfl, rfl, rfl, rfl, rfl, rfl, rfl, rfl, rfl, rfl, rfl, trivial⟩
  rw [show (10 + 2 * 1 + 0 : Int32) = nI 12 from by decide]
  refine sp_multiply (d := 21) (a := 12) (b := 20) hF (by decide) (by decide) (by decide) (by decide) (by decide) rfl rfl z21 z54 (by decide) ?_
  intro pi le sg wo hF
  have z55 : sz ((((mkRat 0 1) + ((md an ad 2 1 0) * (p00))) + ((md an ad 2 1 1) * (p10))) * (md an ad 2 1 0)) 326 := sz_mul z21 z54
  have hF : FS pi le sg (lk [(0, some (x0)), (1, some (x1)), (2, some (((md an ad 4 0 0) + ((((mkRat 0 1) + ((md an ad 2 0 0) * (p00))) + ((md an ad 2 0 1) * (p10))) * (md an ad 2 0 0))) + ((((mkRat 0 1) + ((md an ad 2 0 0) * (p01))) + ((md an ad 2 0 1) * (p11))) * (md an ad 2 0 1)))), (3, some (((md an ad 4 0 1) + ((((mkRat 0 1) + ((md an ad 2 0 0) * (p00))) + ((md an ad 2 0 1) * (p10))) * (md an ad 2 1 0))) + ((((mkRat 0 1) + ((md an ad 2 0 0) * (p01))) + ((md an ad 2 0 1) * (p11))) * (md an ad 2 1 1)))), (4, some (((md an ad 4 1 0) + ((((mkRat 0 1) + ((md an ad 2 1 0) * (p00))) + ((md an ad 2 1 1) * (p10))) * (md an ad 2 0 0))) + ((((mkRat 0 1) + ((md an ad 2 1 0) * (p01))) + ((md an ad 2 1 1) * (p11))) * (md an ad 2 0 1)))), (5, some (p11)), (6, o6), (7, o7), (8, o8), (9, o9), (10, some (((mkRat 0 1) + ((md an ad 2 0 0) * (p00))) + ((md an ad 2 0 1) * (p10)))), (11, some (((mkRat 0 1) + ((md an ad 2 0 0) * (p01))) + ((md an ad 2 0 1) * (p11)))), (12, some (((mkRat 0 1) + ((md an ad 2 1 0) * (p00))) + ((md an ad 2 1 1) * (p10)))), (13, some (((mkRat 0 1) + ((md an ad 2 1 0) * (p01))) + ((md an ad 2 1 1) * (p11)))), (14, some (md an ad 4 1 1)), (20, some (md an ad 2 1 0)), (21, some ((((mkRat 0 1) + ((md an ad 2 1 0) * (p00))) + ((md an ad 2 1 1) * (p10))) * (md an ad 2 1 0)))]) := FS.sub (by rw [lk_up] at hF; exact hF) ⟨rfl, rfl, rfl, rfl, rfl, rfl, rfl, rfl, rfl, rfl, rfl, rfl, rfl, rfl, rfl, rfl, rfl, trivial⟩
  refine sp_add (d := 14) (a := 14) (b := 21) hF (by decide) (by decide) (by decide) (by decide) rfl rfl z53 z55 (by decide) ?_
  intro pi le sg wo hF
  have z56 : sz ((md an ad 4 1 1) + ((((mkRat 0 1) + ((md an ad 2 1 0) * (p00))) + ((md an ad 2 1 1) * (p10))) * (md an ad 2 1 0))) 328 := sz_add z53 z55
  have hF : FS pi le sg (lk [(0, some (x0)), (1, some (x1)), (2, some (((md an ad 4 0 0) + ((((mkRat 0 1) + ((md an ad 2 0 0) * (p00))) + ((md an ad 2 0 1) * (p10))) * (md an ad 2 0 0))) + ((((mkRat 0 1) + ((md an ad 2 0 0) * (p01))) + ((md an ad 2 0 1) * (p11))) * (md an ad 2 0 1)))), (3, some (((md an ad 4 0 1) + ((((mkRat 0 1) + ((md an ad 2 0 0) * (p00))) + ((md an ad 2 0 1) * (p10))) * (md an ad 2 1 0))) + ((((mkRat 0 1) + ((md an ad 2 0 0) * (p01))) + ((md an ad 2 0 1) * (p11))) * (md an ad 2 1 1)))), (4, some (((md an ad 4 1 0) + ((((mkRat 0 1) + ((md an ad 2 1 0) * (p00))) + ((md an ad 2 1 1) * (p10))) * (md an ad 2 0 0))) + ((((mkRat 0 1) + ((md an ad 2 1 0) * (p01))) + ((md an ad 2 1 1) * (p11))) * (md an ad 2 0 1)))), (5, some (p11)), (6, o6), (7, o7), (8, o8), (9, o9), (10, some (((mkRat 0 1) + ((md an ad 2 0 0) * (p00))) + ((md an ad 2 0 1) * (p10)))), (11, some (((mkRat 0 1) + ((md an ad 2 0 0) * (p01))) + ((md an ad 2 0 1) * (p11)))), (12, some (((mkRat 0 1) + ((md an ad 2 1 0) * (p00))) + ((md an ad 2 1 1) * (p10)))), (13, some (((mkRat 0 1) + ((md an ad 2 1 0) * (p01))) + ((md an ad 2 1 1) * (p11)))), (14, some ((md an ad 4 1 1) + ((((mkRat 0 1) + ((md an ad 2 1 0) * (p00))) + ((md an ad 2 1 1) * (p10))) * (md an ad 2 1 0)))), (20, some (md an ad 2 1 0)), (21, some ((((mkRat 0 1) + ((md an ad 2 1 0) * (p00))) + ((md an ad 2 1 1) * (p10))) * (md an ad 2 1 0)))]) := FS.sub (by rw [lk_up] at hF; exact hF) ⟨rfl, rfl, rfl, rfl, rfl, rfl, rfl, rfl, rfl, rfl, rfl, rfl, rfl, rfl, rfl, rfl, rfl, trivial⟩
  intro x9 e9
  obtain rfl : x9 = 1 := by rw [e9]; decide
  rw [wl_X7_doPredict_138]
  refine ⟨fun hc => absurd hc (by decide), fun _ => ?_⟩
  refine sp_md (f := 20) (p := 2) (i := 1) (j := 1) hM hF (by decide) (by decide) ?_
  intro pi le sg wo hF
  have z57 : sz (md an ad 2 1 1) 1 := sz_md hM (by decide)
  have hF : FS pi le sg (lk [(0, some (x0)), (1, some (x1)), (2, some (((md an ad 4 0 0) + ((((mkRat 0 1) + ((md an ad 2 0 0) * (p00))) + ((md an ad 2 0 1) * (p10))) * (md an ad 2 0 0))) + ((((mkRat 0 1) + ((md an ad 2 0 0) * (p01))) + ((md an ad 2 0 1) * (p11))) * (md an ad 2 0 1)))), (3, some (((md an ad 4 0 1) + ((((mkRat 0 1) + ((md an ad 2 0 0) * (p00))) + ((md an ad 2 0 1) * (p10))) * (md an ad 2 1 0))) + ((((mkRat 0 1) + ((md an ad 2 0 0) * (p01))) + ((md an ad 2 0 1) * (p11))) * (md an ad 2 1 1)))), (4, some (((md an ad 4 1 0) + ((((mkRat 0 1) + ((md an ad 2 1 0) * (p00))) + ((md an ad 2 1 1) * (p10))) * (md an ad 2 0 0))) + ((((mkRat 0 1) + ((md an ad 2 1 0) * (p01))) + ((md an ad 2 1 1) * (p11))) * (md an ad 2 0 1)))), (5, some (p11)), (6, o6), (7, o7), (8, o8), (9, o9), (10, some (((mkRat 0 1) + ((md an ad 2 0 0) * (p00))) + ((md an ad 2 0 1) * (p10)))), (11, some (((mkRat 0 1) + ((md an ad 2 0 0) * (p01))) + ((md an ad 2 0 1) * (p11)))), (12, some (((mkRat 0 1) + ((md an ad 2 1 0) * (p00))) + ((md an ad 2 1 1) * (p10)))), (13, some (((mkRat 0 1) + ((md an ad 2 1 0) * (p01))) + ((md an ad 2 1 1) * (p11)))), (14, some ((md an ad 4 1 1) + ((((mkRat 0 1) + ((md an ad 2 1 0) * (p00))) + ((md an ad 2 1 1) * (p10))) * (md an ad 2 1 0)))), (20, some (md an ad 2 1 1)), (21, some ((((mkRat 0 1) + ((md an ad 2 1 0) * (p00))) + ((md an ad 2 1 1) * (p10))) * (md an ad 2 1 0)))]) := FS.sub (by rw [lk_up] at hF; exact hF) ⟨rfl, rfl, rfl, rfl, rfl, rfl, rfl, rfl, rfl, rfl, rfl, rfl, rfl, rfl, rfl, rfl, rfl, trivial⟩
  rw [show (10 + 2 * 1 + 1 : Int32) = nI 13 from by decide]
  refine sp_multiply (d := 21) (a := 13) (b := 20) hF (by decide) (by decide) (by decide) (by decide) (by decide) rfl rfl z28 z57 (by decide) ?_
  intro pi le sg wo hF
  have z58 : sz ((((mkRat 0 1) + ((md an ad 2 1 0) * (p01))) + ((md an ad 2 1 1) * (p11))) * (md an ad 2 1 1)) 326 := sz_mul z28 z57
  have hF : FS pi le sg (lk [(0, some (x0)), (1, some (x1)), (2, some (((md an ad 4 0 0) + ((((mkRat 0 1) + ((md an ad 2 0 0) * (p00))) + ((md an ad 2 0 1) * (p10))) * (md an ad 2 0 0))) + ((((mkRat 0 1) + ((md an ad 2 0 0) * (p01))) + ((md an ad 2 0 1) * (p11))) * (md an ad 2 0 1)))), (3, some (((md an ad 4 0 1) + ((((mkRat 0 1) + ((md an ad 2 0 0) * (p00))) + ((md an ad 2 0 1) * (p10))) * (md an ad 2 1 0))) + ((((mkRat 0 1) + ((md an ad 2 0 0) * (p01))) + ((md an ad 2 0 1) * (p11))) * (md an ad 2 1 1)))), (4, some (((md an ad 4 1 0) + ((((mkRat 0 1) + ((md an ad 2 1 0) * (p00))) + ((md an ad 2 1 1) * (p10))) * (md an ad 2 0 0))) + ((((mkRat 0 1) + ((md an ad 2 1 0) * (p01))) + ((md an ad 2 1 1) * (p11))) * (md an ad 2 0 1)))), (5, some (p11)), (6, o6), (7, o7), (8, o8), (9, o9), (10, some (((mkRat 0 1) + ((md an ad 2 0 0) * (p00))) + ((md an ad 2 0 1) * (p10)))), (11, some (((mkRat 0 1) + ((md an ad 2 0 0) * (p01))) + ((md an ad 2 0 1) * (p11)))), (12, some (((mkRat 0 1) + ((md an ad 2 1 0) * (p00))) + ((md an ad 2 1 1) * (p10)))), (13, some (((mkRat 0 1) + ((md an ad 2 1 0) * (p01))) + ((md an ad 2 1 1) * (p11)))), (14, some ((md an ad 4 1 1) + ((((mkRat 0 1) + ((md an ad 2 1 0) * (p00))) + ((md an ad 2 1 1) * (p10))) * (md an ad 2 1 0)))), (20, some (md an ad 2 1 1)), (21, some ((((mkRat 0 1) + ((md an ad 2 1 0) * (p01))) + ((md an ad 2 1 1) * (p11))) * (md an ad 2 1 1)))]) := FS.sub (by rw [lk_up] at hF; exact hF) ⟨rfl, rfl, rfl, rfl, rfl, rfl, rfl, rfl, rfl, rfl, rfl, rfl, rfl, rfl, rfl, rfl, rfl, trivial⟩
  refine sp_add (d := 14) (a := 14) (b := 21) hF (by decide) (by decide) (by decide) (by decide) rfl rfl z56 z58 (by decide) ?_
  intro pi le sg wo hF
  have z59 : sz (((md an ad 4 1 1) + ((((mkRat 0 1) + ((md an ad 2 1 0) * (p00))) + ((md an ad 2 1 1) * (p10))) * (md an ad 2 1 0))) + ((((mkRat 0 1) + ((md an ad 2 1 0) * (p01))) + ((md an ad 2 1 1) * (p11))) * (md an ad 2 1 1))) 655 := sz_add z56 z58
  have hF : FS pi le sg (lk [(0, some (x0)), (1, some (x1)), (2, some (((md an ad 4 0 0) + ((((mkRat 0 1) + ((md an ad 2 0 0) * (p00))) + ((md an ad 2 0 1) * (p10))) * (md an ad 2 0 0))) + ((((mkRat 0 1) + ((md an ad 2 0 0) * (p01))) + ((md an ad 2 0 1) * (p11))) * (md an ad 2 0 1)))), (3, some (((md an ad 4 0 1) + ((((mkRat 0 1) + ((md an ad 2 0 0) * (p00))) + ((md an ad 2 0 1) * (p10))) * (md an ad 2 1 0))) + ((((mkRat 0 1) + ((md an ad 2 0 0) * (p01))) + ((md an ad 2 0 1) * (p11))) * (md an ad 2 1 1)))), (4, some (((md an ad 4 1 0) + ((((mkRat 0 1) + ((md an ad 2 1 0) * (p00))) + ((md an ad 2 1 1) * (p10))) * (md an ad 2 0 0))) + ((((mkRat 0 1) + ((md an ad 2 1 0) * (p01))) + ((md an ad 2 1 1) * (p11))) * (md an ad 2 0 1)))), (5, some (p11)), (6, o6), (7, o7), (8, o8), (9, o9), (10, some (((mkRat 0 1) + ((md an ad 2 0 0) * (p00))) + ((md an ad 2 0 1) * (p10)))), (11, some (((mkRat 0 1) + ((md an ad 2 0 0) * (p01))) + ((md an ad 2 0 1) * (p11)))), (12, some (((mkRat 0 1) + ((md an ad 2 1 0) * (p00))) + ((md an ad 2 1 1) * (p10)))), (13, some (((mkRat 0 1) + ((md an ad 2 1 0) * (p01))) + ((md an ad 2 1 1) * (p11)))), (14, some (((md an ad 4 1 1) + ((((mkRat 0 1) + ((md an ad 2 1 0) * (p00))) + ((md an ad 2 1 1) * (p10))) * (md an ad 2 1 0))) + ((((mkRat 0 1) + ((md an ad 2 1 0) * (p01))) + ((md an ad 2 1 1) * (p11))) * (md an ad 2 1 1)))), (20, some (md an ad 2 1 1)), (21, some ((((mkRat 0 1) + ((md an ad 2 1 0) * (p01))) + ((md an ad 2 1 1) * (p11))) * (md an ad 2 1 1)))]) := FS.sub (by rw [lk_up] at hF; exact hF) ⟨rfl, rfl, rfl, rfl, rfl, rfl, rfl, rfl, rfl, rfl, rfl, rfl, rfl, rfl, rfl, rfl, rfl, trivial⟩
  intro x9 e9
  obtain rfl : x9 = 2 := by rw [e9]; decide
  rw [wl_X7_doPredict_138]
  refine ⟨fun _ => ?_, fun hc => absurd (by decide) hc⟩
  rw [wp_X7_cov]
  rw [show (2 + 2 * 1 + 1 : Int32) = nI 5 from by decide]
  refine sp_same (d := 5) (a := 14) hF (by decide) (by decide) (by decide) rfl ?_
  intro pi le sg hF
  have z60 : sz (((md an ad 4 1 1) + ((((mkRat 0 1) + ((md an ad 2 1 0) * (p00))) + ((md an ad 2 1 1) * (p10))) * (md an ad 2 1 0))) + ((((mkRat 0 1) + ((md an ad 2 1 0) * (p01))) + ((md an ad 2 1 1) * (p11))) * (md an ad 2 1 1))) 655 := z59
  have hF : FS pi le sg (lk [(0, some (x0)), (1, some (x1)), (2, some (((md an ad 4 0 0) + ((((mkRat 0 1) + ((md an ad 2 0 0) * (p00))) + ((md an ad 2 0 1) * (p10))) * (md an ad 2 0 0))) + ((((mkRat 0 1) + ((md an ad 2 0 0) * (p01))) + ((md an ad 2 0 1) * (p11))) * (md an ad 2 0 1)))), (3, some (((md an ad 4 0 1) + ((((mkRat 0 1) + ((md an ad 2 0 0) * (p00))) + ((md an ad 2 0 1) * (p10))) * (md an ad 2 1 0))) + ((((mkRat 0 1) + ((md an ad 2 0 0) * (p01))) + ((md an ad 2 0 1) * (p11))) * (md an ad 2 1 1)))), (4, some (((md an ad 4 1 0) + ((((mkRat 0 1) + ((md an ad 2 1 0) * (p00))) + ((md an ad 2 1 1) * (p10))) * (md an ad 2 0 0))) + ((((mkRat 0 1) + ((md an ad 2 1 0) * (p01))) + ((md an ad 2 1 1) * (p11))) * (md an ad 2 0 1)))), (5, some (((md an ad 4 1 1) + ((((mkRat 0 1) + ((md an ad 2 1 0) * (p00))) + ((md an ad 2 1 1) * (p10))) * (md an ad 2 1 0))) + ((((mkRat 0 1) + ((md an ad 2 1 0) * (p01))) + ((md an ad 2 1 1) * (p11))) * (md an ad 2 1 1)))), (6, o6), (7, o7), (8, o8), (9, o9), (10, some (((mkRat 0 1) + ((md an ad 2 0 0) * (p00))) + ((md an ad 2 0 1) * (p10)))), (11, some (((mkRat 0 1) + ((md an ad 2 0 0) * (p01))) + ((md an ad 2 0 1) * (p11)))), (12, some (((mkRat 0 1) + ((md an ad 2 1 0) * (p00))) + ((md an ad 2 1 1) * (p10)))), (13, some (((mkRat 0 1) + ((md an ad 2 1 0) * (p01))) + ((md an ad 2 1 1) * (p11)))), (14, some (((md an ad 4 1 1) + ((((mkRat 0 1) + ((md an ad 2 1 0) * (p00))) + ((md an ad 2 1 1) * (p10))) * (md an ad 2 1 0))) + ((((mkRat 0 1) + ((md an ad 2 1 0) * (p01))) + ((md an ad 2 1 1) * (p11))) * (md an ad 2 1 1)))), (20, some (md an ad 2 1 1)), (21, some ((((mkRat 0 1) + ((md an ad 2 1 0) * (p01))) + ((md an ad 2 1 1) * (p11))) * (md an ad 2 1 1)))]) := FS.sub (by rw [lk_up] at hF; exact hF) ⟨rfl, rfl, rfl, rfl, rfl, rfl, rfl, rfl, rfl, rfl, rfl, rfl, rfl, rfl, rfl, rfl, rfl, trivial⟩
  intro x9 e9
  obtain rfl : x9 = 2 := by rw [e9]; decide
  rw [wl_X7_doPredict_119]
  refine ⟨fun _ => ?_, fun hc => absurd (by decide) hc⟩
  intro x9 e9
  obtain rfl : x9 = 2 := by rw [e9]; decide
  rw [wl_X7_doPredict_109]
  refine ⟨fun _ => ?_, fun hc => absurd (by decide) hc⟩
  refine ⟨3 + 1, ?_⟩
  rw [wl_X7_doPredict_213]
  refine ⟨fun hc => absurd hc (by decide), fun _ => ?_⟩
  rw [show (10 + 0 : Int32) = nI 10 from by decide]
  refine sp_md (f := 10) (p := 3) (i := 0) (j := 0) hM hF (by decide) (by decide) ?_
  intro pi le sg wo hF
  have z61 : sz (md an ad 3 0 0) 1 := sz_md hM (by decide)
  have hF : FS pi le sg (lk [(0, some (x0)), (1, some (x1)), (2, some (((md an ad 4 0 0) + ((((mkRat 0 1) + ((md an ad 2 0 0) * (p00))) + ((md an ad 2 0 1) * (p10))) * (md an ad 2 0 0))) + ((((mkRat 0 1) + ((md an ad 2 0 0) * (p01))) + ((md an ad 2 0 1) * (p11))) * (md an ad 2 0 1)))), (3, some (((md an ad 4 0 1) + ((((mkRat 0 1) + ((md an ad 2 0 0) * (p00))) + ((md an ad 2 0 1) * (p10))) * (md an ad 2 1 0))) + ((((mkRat 0 1) + ((md an ad 2 0 0) * (p01))) + ((md an ad 2 0 1) * (p11))) * (md an ad 2 1 1)))), (4, some (((md an ad 4 1 0) + ((((mkRat 0 1) + ((md an ad 2 1 0) * (p00))) + ((md an ad 2 1 1) * (p10))) * (md an ad 2 0 0))) + ((((mkRat 0 1) + ((md an ad 2 1 0) * (p01))) + ((md an ad 2 1 1) * (p11))) * (md an ad 2 0 1)))), (5, some (((md an ad 4 1 1) + ((((mkRat 0 1) + ((md an ad 2 1 0) * (p00))) + ((md an ad 2 1 1) * (p10))) * (md an ad 2 1 0))) + ((((mkRat 0 1) + ((md an ad 2 1 0) * (p01))) + ((md an ad 2 1 1) * (p11))) * (md an ad 2 1 1)))), (6, o6), (7, o7), (8, o8), (9, o9), (10, some (md an ad 3 0 0)), (11, some (((mkRat 0 1) + ((md an ad 2 0 0) * (p01))) + ((md an ad 2 0 1) * (p11)))), (12, some (((mkRat 0 1) + ((md an ad 2 1 0) * (p00))) + ((md an ad 2 1 1) * (p10)))), (13, some (((mkRat 0 1) + ((md an ad 2 1 0) * (p01))) + ((md an ad 2 1 1) * (p11)))), (14, some (((md an ad 4 1 1) + ((((mkRat 0 1) + ((md an ad 2 1 0) * (p00))) + ((md an ad 2 1 1) * (p10))) * (md an ad 2 1 0))) + ((((mkRat 0 1) + ((md an ad 2 1 0) * (p01))) + ((md an ad 2 1 1) * (p11))) * (md an ad 2 1 1)))), (20, some (md an ad 2 1 1)), (21, some ((((mkRat 0 1) + ((md an ad 2 1 0) * (p01))) + ((md an ad 2 1 1) * (p11))) * (md an ad 2 1 1)))]) := FS.sub (by rw [lk_up] at hF; exact hF) ⟨rfl, rfl, rfl, rfl, rfl, rfl, rfl, rfl, rfl, rfl, rfl, rfl, rfl, rfl, rfl, rfl, rfl, trivial⟩
  refine ⟨3 + 1, ?_⟩
  rw [wl_X7_doPredict_234]
  refine ⟨fun hc => absurd hc (by decide), fun _ => ?_⟩
  refine sp_md (f := 20) (p := 2) (i := 0) (j := 0) hM hF (by decide) (by decide) ?_
  intro pi le sg wo hF
  have z62 : sz (md an ad 2 0 0) 1 := sz_md hM (by decide)
  have hF : FS pi le sg (lk [(0, some (x0)), (1, some (x1)), (2, some (((md an ad 4 0 0) + ((((mkRat 0 1) + ((md an ad 2 0 0) * (p00))) + ((md an ad 2 0 1) * (p10))) * (md an ad 2 0 0))) + ((((mkRat 0 1) + ((md an ad 2 0 0) * (p01))) + ((md an ad 2 0 1) * (p11))) * (md an ad 2 0 1)))), (3, some (((md an ad 4 0 1) + ((((mkRat 0 1) + ((md an ad 2 0 0) * (p00))) + ((md an ad 2 0 1) * (p10))) * (md an ad 2 1 0))) + ((((mkRat 0 1) + ((md an ad 2 0 0) * (p01))) + ((md an ad 2 0 1) * (p11))) * (md an ad 2 1 1)))), (4, some (((md an ad 4 1 0) + ((((mkRat 0 1) + ((md an ad 2 1 0) * (p00))) + ((md an ad 2 1 1) * (p10))) * (md an ad 2 0 0))) + ((((mkRat 0 1) + ((md an ad 2 1 0) * (p01))) + ((md an ad 2 1 1) * (p11))) * (md an ad 2 0 1)))), (5, some (((md an ad 4 1 1) + ((((mkRat 0 1) + ((md an ad 2 1 0) * (p00))) + ((md an ad 2 1 1) * (p10))) * (md an ad 2 1 0))) + ((((mkRat 0 1) + ((md an ad 2 1 0) * (p01))) + ((md an ad 2 1 1) * (p11))) * (md an ad 2 1 1)))), (6, o6), (7, o7), (8, o8), (9, o9), (10, some (md an ad 3 0 0)), (11, some (((mkRat 0 1) + ((md an ad 2 0 0) * (p01))) + ((md an ad 2 0 1) * (p11)))), (12, some (((mkRat 0 1) + ((md an ad 2 1 0) * (p00))) + ((md an ad 2 1 1) * (p10)))), (13, some (((mkRat 0 1) + ((md an ad 2 1 0) * (p01))) + ((md an ad 2 1 1) * (p11)))), (14, some (((md an ad 4 1 1) + ((((mkRat 0 1) + ((md an ad 2 1 0) * (p00))) + ((md an ad 2 1 1) * (p10))) * (md an ad 2 1 0))) + ((((mkRat 0 1) + ((md an ad 2 1 0) * (p01))) + ((md an ad 2 1 1) * (p11))) * (md an ad 2 1 1)))), (20, some (md an ad 2 0 0)), (21, some ((((mkRat 0 1) + ((md an ad 2 1 0) * (p01))) + ((md an ad 2 1 1) * (p11))) * (md an ad 2 1 1)))]) := FS.sub (by rw [lk_up] at hF; exact hF) ⟨rfl, rfl, rfl, rfl, rfl, rfl, rfl, rfl, rfl, rfl, rfl, rfl, rfl, rfl, rfl, rfl, rfl, trivial⟩
  refine sp_multiply (d := 21) (a := 20) (b := 0) hF (by decide) (by decide) (by decide) (by decide) (by decide) rfl rfl z62 zx0 (by decide) ?_
  intro pi le sg wo hF
  have z63 : sz ((md an ad 2 0 0) * (x0)) 161 := sz_mul z62 zx0
  have hF : FS pi le sg (lk [(0, some (x0)), (1, some (x1)), (2, some (((md an ad 4 0 0) + ((((mkRat 0 1) + ((md an ad 2 0 0) * (p00))) + ((md an ad 2 0 1) * (p10))) * (md an ad 2 0 0))) + ((((mkRat 0 1) + ((md an ad 2 0 0) * (p01))) + ((md an ad 2 0 1) * (p11))) * (md an ad 2 0 1)))), (3, some (((md an ad 4 0 1) + ((((mkRat 0 1) + ((md an ad 2 0 0) * (p00))) + ((md an ad 2 0 1) * (p10))) * (md an ad 2 1 0))) + ((((mkRat 0 1) + ((md an ad 2 0 0) * (p01))) + ((md an ad 2 0 1) * (p11))) * (md an ad 2 1 1)))), (4, some (((md an ad 4 1 0) + ((((mkRat 0 1) + ((md an ad 2 1 0) * (p00))) + ((md an ad 2 1 1) * (p10))) * (md an ad 2 0 0))) + ((((mkRat 0 1) + ((md an ad 2 1 0) * (p01))) + ((md an ad 2 1 1) * (p11))) * (md an ad 2 0 1)))), (5, some (((md an ad 4 1 1) + ((((mkRat 0 1) + ((md an ad 2 1 0) * (p00))) + ((md an ad 2 1 1) * (p10))) * (md an ad 2 1 0))) + ((((mkRat 0 1) + ((md an ad 2 1 0) * (p01))) + ((md an ad 2 1 1) * (p11))) * (md an ad 2 1 1)))), (6, o6), (7, o7), (8, o8), (9, o9), (10, some (md an ad 3 0 0)), (11, some (((mkRat 0 1) + ((md an ad 2 0 0) * (p01))) + ((md an ad 2 0 1) * (p11)))), (12, some (((mkRat 0 1) + ((md an ad 2 1 0) * (p00))) + ((md an ad 2 1 1) * (p10)))), (13, some (((mkRat 0 1) + ((md an ad 2 1 0) * (p01))) + ((md an ad 2 1 1) * (p11)))), (14, some (((md an ad 4 1 1) + ((((mkRat 0 1) + ((md an ad 2 1 0) * (p00))) + ((md an ad 2 1 1) * (p10))) * (md an ad 2 1 0))) + ((((mkRat 0 1) + ((md an ad 2 1 0) * (p01))) + ((md an ad 2 1 1) * (p11))) * (md an ad 2 1 1)))), (20, some (md an ad 2 0 0)), (21, some ((md an ad 2 0 0) * (x0)))]) := FS.sub (by rw [lk_up] at hF; exact hF) ⟨rfl, rfl, rfl, rfl, rfl, rfl, rfl, rfl, rfl, rfl, rfl, rfl, rfl, rfl, rfl, rfl, rfl, trivial⟩
  rw [show (10 + 0 : Int32) = nI 10 from by decide]
  refine sp_add (d := 10) (a := 10) (b := 21) hF (by decide) (by decide) (by decide) (by decide) rfl rfl z61 z63 (by decide) ?_
  intro pi le sg wo hF
  have z64 : sz ((md an ad 3 0 0) + ((md an ad 2 0 0) * (x0))) 163 := sz_add z61 z63
  have hF : FS pi le sg (lk [(0, some (x0)), (1, some (x1)), (2, some (((md an ad 4 0 0) + ((((mkRat 0 1) + ((md an ad 2 0 0) * (p00))) + ((md an ad 2 0 1) * (p10))) * (md an ad 2 0 0))) + ((((mkRat 0 1) + ((md an ad 2 0 0) * (p01))) + ((md an ad 2 0 1) * (p11))) * (md an ad 2 0 1)))), (3, some (((md an ad 4 0 1) + ((((mkRat 0 1) + ((md an ad 2 0 0) * (p00))) + ((md an ad 2 0 1) * (p10))) * (md an ad 2 1 0))) + ((((mkRat 0 1) + ((md an ad 2 0 0) * (p01))) + ((md an ad 2 0 1) * (p11))) * (md an ad 2 1 1)))), (4, some (((md an ad 4 1 0) + ((((mkRat 0 1) + ((md an ad 2 1 0) * (p00))) + ((md an ad 2 1 1) * (p10))) * (md an ad 2 0 0))) + ((((mkRat 0 1) + ((md an ad 2 1 0) * (p01))) + ((md an ad 2 1 1) * (p11))) * (md an ad 2 0 1)))), (5, some (((md an ad 4 1 1) + ((((mkRat 0 1) + ((md an ad 2 1 0) * (p00))) + ((md an ad 2 1 1) * (p10))) * (md an ad 2 1 0))) + ((((mkRat 0 1) + ((md an ad 2 1 0) * (p01))) + ((md an ad 2 1 1) * (p11))) * (md an ad 2 1 1)))), (6, o6), (7, o7), (8, o8), (9, o9), (10, some ((md an ad 3 0 0) + ((md an ad 2 0 0) * (x0)))), (11, some (((mkRat 0 1) + ((md an ad 2 0 0) * (p01))) + ((md an ad 2 0 1) * (p11)))), (12, some (((mkRat 0 1) + ((md an ad 2 1 0) * (p00))) + ((md an ad 2 1 1) * (p10)))), (13, some (((mkRat 0 1) + ((md an ad 2 1 0) * (p01))) + ((md an ad 2 1 1) * (p11)))), (14, some (((md an ad 4 1 1) + ((((mkRat 0 1) + ((md an ad 2 1 0) * (p00))) + ((md an ad 2 1 1) * (p10))) * (md an ad 2 1 0))) + ((((mkRat 0 1) + ((md an ad 2 1 0) * (p01))) + ((md an ad 2 1 1) * (p11))) * (md an ad 2 1 1)))), (20, some (md an ad 2 0 0)), (21, some ((md an ad 2 0 0) * (x0)))]) := FS.sub (by rw [lk_up] at hF; exact hF) ⟨rfl, rfl, rfl, rfl, rfl, rfl, rfl, rfl, rfl, rfl, rfl, rfl, rfl, rfl, rfl, rfl, rfl, trivial⟩
  intro x9 e9
  obtain rfl : x9 = 1 := by rw [e9]; decide
  rw [wl_X7_doPredict_234]
  refine ⟨fun hc => absurd hc (by decide), fun _ => ?_⟩
  refine sp_md (f := 20) (p := 2) (i := 0) (j := 1) hM hF (by decide) (by decide) ?_
  intro pi le sg wo hF
  have z65 : sz (md an ad 2 0 1) 1 := sz_md hM (by decide)
  have hF : FS pi le sg (lk [(0, some (x0)), (1, some (x1)), (2, some (((md an ad 4 0 0) + ((((mkRat 0 1) + ((md an ad 2 0 0) * (p00))) + ((md an ad 2 0 1) * (p10))) * (md an ad 2 0 0))) + ((((mkRat 0 1) + ((md an ad 2 0 0) * (p01))) + ((md an ad 2 0 1) * (p11))) * (md an ad 2 0 1)))), (3, some (((md an ad 4 0 1) + ((((mkRat 0 1) + ((md an ad 2 0 0) * (p00))) + ((md an ad 2 0 1) * (p10))) * (md an ad 2 1 0))) + ((((mkRat 0 1) + ((md an ad 2 0 0) * (p01))) + ((md an ad 2 0 1) * (p11))) * (md an ad 2 1 1)))), (4, some (((md an ad 4 1 0) + ((((mkRat 0 1) + ((md an ad 2 1 0) * (p00))) + ((md an ad 2 1 1) * (p10))) * (md an ad 2 0 0))) + ((((mkRat 0 1) + ((md an ad 2 1 0) * (p01))) + ((md an ad 2 1 1) * (p11))) * (md an ad 2 0 1)))), (5, some (((md an ad 4 1 1) + ((((mkRat 0 1) + ((md an ad 2 1 0) * (p00))) + ((md an ad 2 1 1) * (p10))) * (md an ad 2 1 0))) + ((((mkRat 0 1) + ((md an ad 2 1 0) * (p01))) + ((md an ad 2 1 1) * (p11))) * (md an ad 2 1 1)))), (6, o6), (7, o7), (8, o8), (9, o9), (10, some ((md an ad 3 0 0) + ((md an ad 2 0 0) * (x0)))), (11, some (((mkRat 0 1) + ((md an ad 2 0 0) * (p01))) + ((md an ad 2 0 1) * (p11)))), (12, some (((mkRat 0 1) + ((md an ad 2 1 0) * (p00))) + ((md an ad 2 1 1) * (p10)))), (13, some (((mkRat 0 1) + ((md an ad 2 1 0) * (p01))) + ((md an ad 2 1 1) * (p11)))), (14, some (((md an ad 4 1 1) + ((((mkRat 0 1) + ((md an ad 2 1 0) * (p00))) + ((md an ad 2 1 1) * (p10))) * (md an ad 2 1 0))) + ((((mkRat 0 1) + ((md an ad 2 1 0) * (p01))) + ((md an ad 2 1 1) * (p11))) * (md an ad 2 1 1)))), (20, some (md an ad 2 0 1)), (21, some ((md an ad 2 0 0) * (x0)))]) := FS.sub (by rw [lk_up] at hF; exact hF) ⟨rfl, rfl, rfl, rfl, rfl, rfl, rfl, rfl, rfl, rfl, rfl, rfl, rfl, rfl, rfl, rfl, rfl, trivial⟩
  refine sp_multiply (d := 21) (a := 20) (b := 1) hF (by decide) (by decide) (by decide) (by decide) (by decide) rfl rfl z65 zx1 (by decide) ?_
  intro pi le sg wo hF
  have z66 : sz ((md an ad 2 0 1) * (x1)) 161 := sz_mul z65 zx1
  have hF : FS pi le sg (lk [(0, some (x0)), (1, some (x1)), (2, some (((md an ad 4 0 0) + ((((mkRat 0 1) + ((md an ad 2 0 0) * (p00))) + ((md an ad 2 0 1) * (p10))) * (md an ad 2 0 0))) + ((((mkRat 0 1) + ((md an ad 2 0 0) * (p01))) + ((md an ad 2 0 1) * (p11))) * (md an ad 2 0 1)))), (3, some (((md an ad 4 0 1) + ((((mkRat 0 1) + ((md an ad 2 0 0) * (p00))) + ((md an ad 2 0 1) * (p10))) * (md an ad 2 1 0))) + ((((mkRat 0 1) + ((md an ad 2 0 0) * (p01))) + ((md an ad 2 0 1) * (p11))) * (md an ad 2 1 1)))), (4, some (((md an ad 4 1 0) + ((((mkRat 0 1) + ((md an ad 2 1 0) * (p00))) + ((md an ad 2 1 1) * (p10))) * (md an ad 2 0 0))) + ((((mkRat 0 1) + ((md an ad 2 1 0) * (p01))) + ((md an ad 2 1 1) * (p11))) * (md an ad 2 0 1)))), (5, some (((md an ad 4 1 1) + ((((mkRat 0 1) + ((md an ad 2 1 0) * (p00))) + ((md an ad 2 1 1) * (p10))) * (md an ad 2 1 0))) + ((((mkRat 0 1) + ((md an ad 2 1 0) * (p01))) + ((md an ad 2 1 1) * (p11))) * (md an ad 2 1 1)))), (6, o6), (7, o7), (8, o8), (9, o9), (10, some ((md an ad 3 0 0) + ((md an ad 2 0 0) * (x0)))), (11, some (((mkRat 0 1) + ((md an ad 2 0 0) * (p01))) + ((md an ad 2 0 1) * (p11)))), (12, some (((mkRat 0 1) + ((md an ad 2 1 0) * (p00))) + ((md an ad 2 1 1) * (p10)))), (13, some (((mkRat 0 1) + ((md an ad 2 1 0) * (p01))) + ((md an ad 2 1 1) * (p11)))), (14, some (((md an ad 4 1 1) + ((((mkRat 0 1) + ((md an ad 2 1 0) * (p00))) + ((md an ad 2 1 1) * (p10))) * (md an ad 2 1 0))) + ((((mkRat 0 1) + ((md an ad 2 1 0) * (p01))) + ((md an ad 2 1 1) * (p11))) * (md an ad 2 1 1)))), (20, some (md an ad 2 0 1)), (21, some ((md an ad 2 0 1) * (x1)))]) := FS.sub (by rw [lk_up] at hF; exact hF) ⟨rfl, rfl, rfl, rfl, rfl, rfl, rfl, rfl, rfl, rfl, rfl, rfl, rfl, rfl, rfl, rfl, rfl, trivial⟩
  rw [show (10 + 0 : Int32) = nI 10 from by decide]
  refine sp_add (d := 10) (a := 10) (b := 21) hF (by decide) (by decide) (by decide) (by decide) rfl rfl z64 z66 (by decide) ?_
  intro pi le sg wo hF
  have z67 : sz (((md an ad 3 0 0) + ((md an ad 2 0 0) * (x0))) + ((md an ad 2 0 1) * (x1))) 325 := sz_add z64 z66
  have hF : FS pi le sg (lk [(0, some (x0)), (1, some (x1)), (2, some (((md an ad 4 0 0) + ((((mkRat 0 1) + ((md an ad 2 0 0) * (p00))) + ((md an ad 2 0 1) * (p10))) * (md an ad 2 0 0))) + ((((mkRat 0 1) + ((md an ad 2 0 0) * (p01))) + ((md an ad 2 0 1) * (p11))) * (md an ad 2 0 1)))), (3, some (((md an ad 4 0 1) + ((((mkRat 0 1) + ((md an ad 2 0 0) * (p00))) + ((md an ad 2 0 1) * (p10))) * (md an ad 2 1 0))) + ((((mkRat 0 1) + ((md an ad 2 0 0) * (p01))) + ((md an ad 2 0 1) * (p11))) * (md an ad 2 1 1)))), (4, some (((md an ad 4 1 0) + ((((mkRat 0 1) + ((md an ad 2 1 0) * (p00))) + ((md an ad 2 1 1) * (p10))) * (md an ad 2 0 0))) + ((((mkRat 0 1) + ((md an ad 2 1 0) * (p01))) + ((md an ad 2 1 1) * (p11))) * (md an ad 2 0 1)))), (5, some (((md an ad 4 1 1) + ((((mkRat 0 1) + ((md an ad 2 1 0) * (p00))) + ((md an ad 2 1 1) * (p10))) * (md an ad 2 1 0))) + ((((mkRat 0 1) + ((md an ad 2 1 0) * (p01))) + ((md an ad 2 1 1) * (p11))) * (md an ad 2 1 1)))), (6, o6), (7, o7), (8, o8), (9, o9), (10, some (((md an ad 3 0 0) + ((md an ad 2 0 0) * (x0))) + ((md an ad 2 0 1) * (x1)))), (11, some (((mkRat 0 1) + ((md an ad 2 0 0) * (p01))) + ((md an ad 2 0 1) * (p11)))), (12, some (((mkRat 0 1) + ((md an ad 2 1 0) * (p00))) + ((md an ad 2 1 1) * (p10)))), (13, some (((mkRat 0 1) + ((md an ad 2 1 0) * (p01))) + ((md an ad 2 1 1) * (p11)))), (14, some (((md an ad 4 1 1) + ((((mkRat 0 1) + ((md an ad 2 1 0) * (p00))) + ((md an ad 2 1 1) * (p10))) * (md an ad 2 1 0))) + ((((mkRat 0 1) + ((md an ad 2 1 0) * (p01))) + ((md an ad 2 1 1) * (p11))) * (md an ad 2 1 1)))), (20, some (md an ad 2 0 1)), (21, some ((md an ad 2 0 1) * (x1)))]) := FS.sub (by rw [lk_up] at hF; exact hF) ⟨rfl, rfl, rfl, rfl, rfl, rfl, rfl, rfl, rfl, rfl, rfl, rfl, rfl, rfl, rfl, rfl, rfl, trivial⟩
  intro x9 e9
  obtain rfl : x9 = 2 := by rw [e9]; decide
  rw [wl_X7_doPredict_234]
  refine ⟨fun _ => ?_, fun hc => absurd (by decide) hc⟩
  intro x9 e9
  obtain rfl : x9 = 1 := by rw [e9]; decide
  rw [wl_X7_doPredict_213]
  refine ⟨fun hc => absurd hc (by decide), fun _ => ?_⟩
  rw [show (10 + 1 : Int32) = nI 11 from by decide]
  refine sp_md (f := 11) (p := 3) (i := 1) (j := 0) hM hF (by decide) (by decide) ?_
  intro pi le sg wo hF
  have z68 : sz (md an ad 3 1 0) 1 := sz_md hM (by decide)
  have hF : FS pi le sg (lk [(0, some (x0)), (1, some (x1)), (2, some (((md an ad 4 0 0) + ((((mkRat 0 1) + ((md an ad 2 0 0) * (p00))) + ((md an ad 2 0 1) * (p10))) * (md an ad 2 0 0))) + ((((mkRat 0 1) + ((md an ad 2 0 0) * (p01))) + ((md an ad 2 0 1) * (p11))) * (md an ad 2 0 1)))), (3, some (((md an ad 4 0 1) + ((((mkRat 0 1) + ((md an ad 2 0 0) * (p00))) + ((md an ad 2 0 1) * (p10))) * (md an ad 2 1 0))) + ((((mkRat 0 1) + ((md an ad 2 0 0) * (p01))) + ((md an ad 2 0 1) * (p11))) * (md an ad 2 1 1)))), (4, some (((md an ad 4 1 0) + ((((mkRat 0 1) + ((md an ad 2 1 0) * (p00))) + ((md an ad 2 1 1) * (p10))) * (md an ad 2 0 0))) + ((((mkRat 0 1) + ((md an ad 2 1 0) * (p01))) + ((md an ad 2 1 1) * (p11))) * (md an ad 2 0 1)))), (5, some (((md an ad 4 1 1) + ((((mkRat 0 1) + ((md an ad 2 1 0) * (p00))) + ((md an ad 2 1 1) * (p10))) * (md an ad 2 1 0))) + ((((mkRat 0 1) + ((md an ad 2 1 0) * (p01))) + ((md an ad 2 1 1) * (p11))) * (md an ad 2 1 1)))), (6, o6), (7, o7), (8, o8), (9, o9), (10, some (((md an ad 3 0 0) + ((md an ad 2 0 0) * (x0))) + ((md an ad 2 0 1) * (x1)))), (11, some (md an ad 3 1 0)), (12, some (((mkRat 0 1) + ((md an ad 2 1 0) * (p00))) + ((md an ad 2 1 1) * (p10)))), (13, some (((mkRat 0 1) + ((md an ad 2 1 0) * (p01))) + ((md an ad 2 1 1) * (p11)))), (14, some (((md an ad 4 1 1) + ((((mkRat 0 1) + ((md an ad 2 1 0) * (p00))) + ((md an ad 2 1 1) * (p10))) * (md an ad 2 1 0))) + ((((mkRat 0 1) + ((md an ad 2 1 0) * (p01))) + ((md an ad 2 1 1) * (p11))) * (md an ad 2 1 1)))), (20, some (md an ad 2 0 1)), (21, some ((md an ad 2 0 1) * (x1)))]) := FS.sub (by rw [lk_up] at hF; exact hF) ⟨rfl, rfl, rfl, rfl, rfl, rfl, rfl, rfl, rfl, rfl, rfl, rfl, rfl, rfl, rfl, rfl, rfl, trivial⟩
  refine ⟨3 + 1, ?_⟩
  rw [wl_X7_doPredict_234]
  refine ⟨fun hc => absurd hc (by decide), fun _ => ?_⟩
  refine sp_md (f := 20) (p := 2) (i := 1) (j := 0) hM hF (by decide) (by decide) ?_
  intro pi le sg wo hF
  have z69 : sz (md an ad 2 1 0) 1 := sz_md hM (by decide)
  have hF : FS pi le sg (lk [(0, some (x0)), (1, some (x1)), (2, some (((md an ad 4 0 0) + ((((mkRat 0 1) + ((md an ad 2 0 0) * (p00))) + ((md an ad 2 0 1) * (p10))) * (md an ad 2 0 0))) + ((((mkRat 0 1) + ((md an ad 2 0 0) * (p01))) + ((md an ad 2 0 1) * (p11))) * (md an ad 2 0 1)))), (3, some (((md an ad 4 0 1) + ((((mkRat 0 1) + ((md an ad 2 0 0) * (p00))) + ((md an ad 2 0 1) * (p10))) * (md an ad 2 1 0))) + ((((mkRat 0 1) + ((md an ad 2 0 0) * (p01))) + ((md an ad 2 0 1) * (p11))) * (md an ad 2 1 1)))), (4, some (((md an ad 4 1 0) + ((((mkRat 0 1) + ((md an ad 2 1 0) * (p00))) + ((md an ad 2 1 1) * (p10))) * (md an ad 2 0 0))) + ((((mkRat 0 1) + ((md an ad 2 1 0) * (p01))) + ((md an ad 2 1 1) * (p11))) * (md an ad 2 0 1)))), (5, some (((md an ad 4 1 1) + ((((mkRat 0 1) + ((md an ad 2 1 0) * (p00))) + ((md an ad 2 1 1) * (p10))) * (md an ad 2 1 0))) + ((((mkRat 0 1) + ((md an ad 2 1 0) * (p01))) + ((md an ad 2 1 1) * (p11))) * (md an ad 2 1 1)))), (6, o6), (7, o7), (8, o8), (9, o9), (10, some (((md an ad 3 0 0) + ((md an ad 2 0 0) * (x0))) + ((md an ad 2 0 1) * (x1)))), (11, some (md an ad 3 1 0)), (12, some (((mkRat 0 1) + ((md an ad 2 1 0) * (p00))) + ((md an ad 2 1 1) * (p10)))), (13, some (((mkRat 0 1) + ((md an ad 2 1 0) * (p01))) + ((md an ad 2 1 1) * (p11)))), (14, some (((md an ad 4 1 1) + ((((mkRat 0 1) + ((md an ad 2 1 0) * (p00))) + ((md an ad 2 1 1) * (p10))) * (md an ad 2 1 0))) + ((((mkRat 0 1) + ((md an ad 2 1 0) * (p01))) + ((md an ad 2 1 1) * (p11))) * (md an ad 2 1 1)))), (20, some (md an ad 2 1 0)), (21, some ((md an ad 2 0 1) * (x1)))]) := FS.sub (by rw [lk_up] at hF; exact hF) ⟨rfl, rfl, rfl, rfl, rfl, rfl, rfl, rfl, rfl, rfl, rfl, rfl, rfl, rfl, rfl, rfl, rfl, trivial⟩
  refine sp_multiply (d := 21) (a := 20) (b := 0) hF (by decide) (by decide) (by decide) (by decide) (by decide) rfl rfl z69 zx0 (by decide) ?_
  intro pi le sg wo hF
  have z70 : sz ((md an ad 2 1 0) * (x0)) 161 := sz_mul z69 zx0
  have hF : FS pi le sg (lk [(0, some (x0)), (1, some (x1)), (2, some (((md an ad 4 0 0) + ((((mkRat 0 1) + ((md an ad 2 0 0) * (p00))) + ((md an ad 2 0 1) * (p10))) * (md an ad 2 0 0))) + ((((mkRat 0 1) + ((md an ad 2 0 0) * (p01))) + ((md an ad 2 0 1) * (p11))) * (md an ad 2 0 1)))), (3, some (((md an ad 4 0 1) + ((((mkRat 0 1) + ((md an ad 2 0 0) * (p00))) + ((md an ad 2 0 1) * (p10))) * (md an ad 2 1 0))) + ((((mkRat 0 1) + ((md an ad 2 0 0) * (p01))) + ((md an ad 2 0 1) * (p11))) * (md an ad 2 1 1)))), (4, some (((md an ad 4 1 0) + ((((mkRat 0 1) + ((md an ad 2 1 0) * (p00))) + ((md an ad 2 1 1) * (p10))) * (md an ad 2 0 0))) + ((((mkRat 0 1) + ((md an ad 2 1 0) * (p01))) + ((md an ad 2 1 1) * (p11))) * (md an ad 2 0 1)))), (5, some (((md an ad 4 1 1) + ((((mkRat 0 1) + ((md an ad 2 1 0) * (p00))) + ((md an ad 2 1 1) * (p10))) * (md an ad 2 1 0))) + ((((mkRat 0 1) + ((md an ad 2 1 0) * (p01))) + ((md an ad 2 1 1) * (p11))) * (md an ad 2 1 1)))), (6, o6), (7, o7), (8, o8), (9, o9), (10, some (((md an ad 3 0 0) + ((md an ad 2 0 0) * (x0))) + ((md an ad 2 0 1) * (x1)))), (11, some (md an ad 3 1 0)), (12, some (((mkRat 0 1) + ((md an ad 2 1 0) * (p00))) + ((md an ad 2 1 1) * (p10)))), (13, some (((mkRat 0 1) + ((md an ad 2 1 0) * (p01))) + ((md an ad 2 1 1) * (p11)))), (14, some (((md an ad 4 1 1) + ((((mkRat 0 1) + ((md an ad 2 1 0) * (p00))) + ((md an ad 2 1 1) * (p10))) * (md an ad 2 1 0))) + ((((mkRat 0 1) + ((md an ad 2 1 0) * (p01))) + ((md an ad 2 1 1) * (p11))) * (md an ad 2 1 1)))), (20, some (md an ad 2 1 0)), (21, some ((md an ad 2 1 0) * (x0)))]) := FS.sub (by rw [lk_up] at hF; exact hF) ⟨rfl, rfl, rfl, rfl, rfl, rfl, rfl, rfl, rfl, rfl, rfl, rfl, rfl, rfl, rfl, rfl, rfl, trivial⟩
  rw [show (10 + 1 : Int32) = nI 11 from by decide]
  refine sp_add (d := 11) (a := 11) (b := 21) hF (by decide) (by decide) (by decide) (by decide) rfl rfl z68 z70 (by decide) ?_
  intro pi le sg wo hF
  have z71 : sz ((md an ad 3 1 0) + ((md an ad 2 1 0) * (x0))) 163 := sz_add z68 z70
  have hF : FS pi le sg (lk [(0, some (x0)), (1, some (x1)), (2, some (((md an ad 4 0 0) + ((((mkRat 0 1) + ((md an ad 2 0 0) * (p00))) + ((md an ad 2 0 1) * (p10))) * (md an ad 2 0 0))) + ((((mkRat 0 1) + ((md an ad 2 0 0) * (p01))) + ((md an ad 2 0 1) * (p11))) * (md an ad 2 0 1)))), (3, some (((md an ad 4 0 1) + ((((mkRat 0 1) + ((md an ad 2 0 0) * (p00))) + ((md an ad 2 0 1) * (p10))) * (md an ad 2 1 0))) + ((((mkRat 0 1) + ((md an ad 2 0 0) * (p01))) + ((md an ad 2 0 1) * (p11))) * (md an ad 2 1 1)))), (4, some (((md an ad 4 1 0) + ((((mkRat 0 1) + ((md an ad 2 1 0) * (p00))) + ((md an ad 2 1 1) * (p10))) * (md an ad 2 0 0))) + ((((mkRat 0 1) + ((md an ad 2 1 0) * (p01))) + ((md an ad 2 1 1) * (p11))) * (md an ad 2 0 1)))), (5, some (((md an ad 4 1 1) + ((((mkRat 0 1) + ((md an ad 2 1 0) * (p00))) + ((md an ad 2 1 1) * (p10))) * (md an ad 2 1 0))) + ((((mkRat 0 1) + ((md an ad 2 1 0) * (p01))) + ((md an ad 2 1 1) * (p11))) * (md an ad 2 1 1)))), (6, o6), (7, o7), (8, o8), (9, o9), (10, some (((md an ad 3 0 0) + ((md an ad 2 0 0) * (x0))) + ((md an ad 2 0 1) * (x1)))), (11, some ((md an ad 3 1 0) + ((md an ad 2 1 0) * (x0)))), (12, some (((mkRat 0 1) + ((md an ad 2 1 0) * (p00))) + ((md an ad 2 1 1) * (p10)))), (13, some (((mkRat 0 1) + ((md an ad 2 1 0) * (p01))) + ((md an ad 2 1 1) * (p11)))), (14, some (((md an ad 4 1 1) + ((((mkRat 0 1) + ((md an ad 2 1 0) * (p00))) + ((md an ad 2 1 1) * (p10))) * (md an ad 2 1 0))) + ((((mkRat 0 1) + ((md an ad 2 1 0) * (p01))) + ((md an ad 2 1 1) * (p11))) * (md an ad 2 1 1)))), (20, some (md an ad 2 1 0)), (21, some ((md an ad 2 1 0) * (x0)))]) := FS.sub (by rw [lk_up] at hF; exact hF) ⟨rfl, rfl, rfl, rfl, rfl, rfl, rfl, rfl, rfl, rfl, rfl, rfl, rfl, rfl, rfl, rfl, rfl, trivial⟩
  intro x9 e9
  obtain rfl : x9 = 1 := by rw [e9]; decide
  rw [wl_X7_doPredict_234]
  refine ⟨fun hc => absurd hc (by decide), fun _ => ?_⟩
  refine sp_md (f := 20) (p := 2) (i := 1) (j := 1) hM hF (by decide) (by decide) ?_
  intro pi le sg wo hF
  have z72 : sz (md an ad 2 1 1) 1 := sz_md hM (by decide)
  have hF : FS pi le sg (lk [(0, some (x0)), (1, some (x1)), (2, some (((md an ad 4 0 0) + ((((mkRat 0 1) + ((md an ad 2 0 0) * (p00))) + ((md an ad 2 0 1) * (p10))) * (md an ad 2 0 0))) + ((((mkRat 0 1) + ((md an ad 2 0 0) * (p01))) + ((md an ad 2 0 1) * (p11))) * (md an ad 2 0 1)))), (3, some (((md an ad 4 0 1) + ((((mkRat 0 1) + ((md an ad 2 0 0) * (p00))) + ((md an ad 2 0 1) * (p10))) * (md an ad 2 1 0))) + ((((mkRat 0 1) + ((md an ad 2 0 0) * (p01))) + ((md an ad 2 0 1) * (p11))) * (md an ad 2 1 1)))), (4, some (((md an ad 4 1 0) + ((((mkRat 0 1) + ((md an ad 2 1 0) * (p00))) + ((md an ad 2 1 1) * (p10))) * (md an ad 2 0 0))) + ((((mkRat 0 1) + ((md an ad 2 1 0) * (p01))) + ((md an ad 2 1 1) * (p11))) * (md an ad 2 0 1)))), (5, some (((md an ad 4 1 1) + ((((mkRat 0 1) + ((md an ad 2 1 0) * (p00))) + ((md an ad 2 1 1) * (p10))) * (md an ad 2 1 0))) + ((((mkRat 0 1) + ((md an ad 2 1 0) * (p01))) + ((md an ad 2 1 1) * (p11))) * (md an ad 2 1 1)))), (6, o6), (7, o7), (8, o8), (9, o9), (10, some (((md an ad 3 0 0) + ((md an ad 2 0 0) * (x0))) + ((md an ad 2 0 1) * (x1)))), (11, some ((md an ad 3 1 0) + ((md an ad 2 1 0) * (x0)))), (12, some (((mkRat 0 1) + ((md an ad 2 1 0) * (p00))) + ((md an ad 2 1 1) * (p10)))), (13, some (((mkRat 0 1) + ((md an ad 2 1 0) * (p01))) + ((md an ad 2 1 1) * (p11)))), (14, some (((md an ad 4 1 1) + ((((mkRat 0 1) + ((md an ad 2 1 0) * (p00))) + ((md an ad 2 1 1) * (p10))) * (md an ad 2 1 0))) + ((((mkRat 0 1) + ((md an ad 2 1 0) * (p01))) + ((md an ad 2 1 1) * (p11))) * (md an ad 2 1 1)))), (20, some (md an ad 2 1 1)), (21, some ((md an ad 2 1 0) * (x0)))]) := FS.sub (by rw [lk_up] at hF; exact hF) ⟨rfl, rfl, rfl, rfl, rfl, rfl, rfl, rfl, rfl, rfl, rfl, rfl, rfl, rfl, rfl, rfl, rfl, trivial⟩
  refine sp_multiply (d := 21) (a := 20) (b := 1) hF (by decide) (by decide) (by decide) (by decide) (by decide) rfl rfl z72 zx1 (by decide) ?_
  intro pi le sg wo hF
  have z73 : sz ((md an ad 2 1 1) * (x1)) 161 := sz_mul z72 zx1
  have hF : FS pi le sg (lk [(0, some (x0)), (1, some (x1)), (2, some (((md an ad 4 0 0) + ((((mkRat 0 1) + ((md an ad 2 0 0) * (p00))) + ((md an ad 2 0 1) * (p10))) * (md an ad 2 0 0))) + ((((mkRat 0 1) + ((md an ad 2 0 0) * (p01))) + ((md an ad 2 0 1) * (p11))) * (md an ad 2 0 1)))), (3, some (((md an ad 4 0 1) + ((((mkRat 0 1) + ((md an ad 2 0 0) * (p00))) + ((md an ad 2 0 1) * (p10))) * (md an ad 2 1 0))) + ((((mkRat 0 1) + ((md an ad 2 0 0) * (p01))) + ((md an ad 2 0 1) * (p11))) * (md an ad 2 1 1)))), (4, some (((md an ad 4 1 0) + ((((mkRat 0 1) + ((md an ad 2 1 0) * (p00))) + ((md an ad 2 1 1) * (p10))) * (md an ad 2 0 0))) + ((((mkRat 0 1) + ((md an ad 2 1 0) * (p01))) + ((md an ad 2 1 1) * (p11))) * (md an ad 2 0 1)))), (5, some (((md an ad 4 1 1) + ((((mkRat 0 1) + ((md an ad 2 1 0) * (p00))) + ((md an ad 2 1 1) * (p10))) * (md an ad 2 1 0))) + ((((mkRat 0 1) + ((md an ad 2 1 0) * (p01))) + ((md an ad 2 1 1) * (p11))) * (md an ad 2 1 1)))), (6, o6), (7, o7), (8, o8), (9, o9), (10, some (((md an ad 3 0 0) + ((md an ad 2 0 0) * (x0))) + ((md an ad 2 0 1) * (x1)))), (11, some ((md an ad 3 1 0) + ((md an ad 2 1 0) * (x0)))), (12, some (((mkRat 0 1) + ((md an ad 2 1 0) * (p00))) + ((md an ad 2 1 1) * (p10)))), (13, some (((mkRat 0 1) + ((md an ad 2 1 0) * (p01))) + ((md an ad 2 1 1) * (p11)))), (14, some (((md an ad 4 1 1) + ((((mkRat 0 1) + ((md an ad 2 1 0) * (p00))) + ((md an ad 2 1 1) * (p10))) * (md an ad 2 1 0))) + ((((mkRat 0 1) + ((md an ad 2 1 0) * (p01))) + ((md an ad 2 1 1) * (p11))) * (md an ad 2 1 1)))), (20, some (md an ad 2 1 1)), (21, some ((md an ad 2 1 1) * (x1)))]) := FS.sub (by rw [lk_up] at hF; exact hF) ⟨rfl, rfl, rfl, rfl, rfl, rfl, rfl, rfl, rfl, rfl, rfl, rfl, rfl, rfl, rfl, rfl, rfl, trivial⟩
  rw [show (10 + 1 : Int32) = nI 11 from by decide]
  refine sp_add (d := 11) (a := 11) (b := 21) hF (by decide) (by decide) (by decide) (by decide) rfl rfl z71 z73 (by decide) ?_
  intro pi le sg wo hF
  have z74 : sz (((md an ad 3 1 0) + ((md an ad 2 1 0) * (x0))) + ((md an ad 2 1 1) * (x1))) 325 := sz_add z71 z73
  have hF : FS pi le sg (lk [(0, some (x0)), (1, some (x1)), (2, some (((md an ad 4 0 0) + ((((mkRat 0 1) + ((md an ad 2 0 0) * (p00))) + ((md an ad 2 0 1) * (p10))) * (md an ad 2 0 0))) + ((((mkRat 0 1) + ((md an ad 2 0 0) * (p01))) + ((md an ad 2 0 1) * (p11))) * (md an ad 2 0 1)))), (3, some (((md an ad 4 0 1) + ((((mkRat 0 1) + ((md an ad 2 0 0) * (p00))) + ((md an ad 2 0 1) * (p10))) * (md an ad 2 1 0))) + ((((mkRat 0 1) + ((md an ad 2 0 0) * (p01))) + ((md an ad 2 0 1) * (p11))) * (md an ad 2 1 1)))), (4, some (((md an ad 4 1 0) + ((((mkRat 0 1) + ((md an ad 2 1 0) * (p00))) + ((md an ad 2 1 1) * (p10))) * (md an ad 2 0 0))) + ((((mkRat 0 1) + ((md an ad 2 1 0) * (p01))) + ((md an ad 2 1 1) * (p11))) * (md an ad 2 0 1)))), (5, some (((md an ad 4 1 1) + ((((mkRat 0 1) + ((md an ad 2 1 0) * (p00))) + ((md an ad 2 1 1) * (p10))) * (md an ad 2 1 0))) + ((((mkRat 0 1) + ((md an ad 2 1 0) * (p01))) + ((md an ad 2 1 1) * (p11))) * (md an ad 2 1 1)))), (6, o6), (7, o7), (8, o8), (9, o9), (10, some (((md an ad 3 0 0) + ((md an ad 2 0 0) * (x0))) + ((md an ad 2 0 1) * (x1)))), (11, some (((md an ad 3 1 0) + ((md an ad 2 1 0) * (x0))) + ((md an ad 2 1 1) * (x1)))), (12, some (((mkRat 0 1) + ((md an ad 2 1 0) * (p00))) + ((md an ad 2 1 1) * (p10)))), (13, some (((mkRat 0 1) + ((md an ad 2 1 0) * (p01))) + ((md an ad 2 1 1) * (p11)))), (14, some (((md an ad 4 1 1) + ((((mkRat 0 1) + ((md an ad 2 1 0) * (p00))) + ((md an ad 2 1 1) * (p10))) * (md an ad 2 1 0))) + ((((mkRat 0 1) + ((md an ad 2 1 0) * (p01))) + ((md an ad 2 1 1) * (p11))) * (md an ad 2 1 1)))), (20, some (md an ad 2 1 1)), (21, some ((md an ad 2 1 1) * (x1)))]) := FS.sub (by rw [lk_up] at hF; exact hF) ⟨rfl, rfl, rfl, rfl, rfl, rfl, rfl, rfl, rfl, rfl, rfl, rfl, rfl, rfl, rfl, rfl, rfl, trivial⟩
  intro x9 e9
  obtain rfl : x9 = 2 := by rw [e9]; decide
  rw [wl_X7_doPredict_234]
  refine ⟨fun _ => ?_, fun hc => absurd (by decide) hc⟩
  intro x9 e9
  obtain rfl : x9 = 2 := by rw [e9]; decide
  rw [wl_X7_doPredict_213]
  refine ⟨fun _ => ?_, fun hc => absurd (by decide) hc⟩
  refine ⟨3 + 1, ?_⟩
  rw [wl_X7_doPredict_289]
  refine ⟨fun hc => absurd hc (by decide), fun _ => ?_⟩
  rw [show (10 + 0 : Int32) = nI 10 from by decide]
  refine sp_same (d := 0) (a := 10) hF (by decide) (by decide) (by decide) rfl ?_
  intro pi le sg hF
  have z75 : sz (((md an ad 3 0 0) + ((md an ad 2 0 0) * (x0))) + ((md an ad 2 0 1) * (x1))) 325 := z67
  have hF : FS pi le sg (lk [(0, some (((md an ad 3 0 0) + ((md an ad 2 0 0) * (x0))) + ((md an ad 2 0 1) * (x1)))), (1, some (x1)), (2, some (((md an ad 4 0 0) + ((((mkRat 0 1) + ((md an ad 2 0 0) * (p00))) + ((md an ad 2 0 1) * (p10))) * (md an ad 2 0 0))) + ((((mkRat 0 1) + ((md an ad 2 0 0) * (p01))) + ((md an ad 2 0 1) * (p11))) * (md an ad 2 0 1)))), (3, some (((md an ad 4 0 1) + ((((mkRat 0 1) + ((md an ad 2 0 0) * (p00))) + ((md an ad 2 0 1) * (p10))) * (md an ad 2 1 0))) + ((((mkRat 0 1) + ((md an ad 2 0 0) * (p01))) + ((md an ad 2 0 1) * (p11))) * (md an ad 2 1 1)))), (4, some (((md an ad 4 1 0) + ((((mkRat 0 1) + ((md an ad 2 1 0) * (p00))) + ((md an ad 2 1 1) * (p10))) * (md an ad 2 0 0))) + ((((mkRat 0 1) + ((md an ad 2 1 0) * (p01))) + ((md an ad 2 1 1) * (p11))) * (md an ad 2 0 1)))), (5, some (((md an ad 4 1 1) + ((((mkRat 0 1) + ((md an ad 2 1 0) * (p00))) + ((md an ad 2 1 1) * (p10))) * (md an ad 2 1 0))) + ((((mkRat 0 1) + ((md an ad 2 1 0) * (p01))) + ((md an ad 2 1 1) * (p11))) * (md an ad 2 1 1)))), (6, o6), (7, o7), (8, o8), (9, o9), (10, some (((md an ad 3 0 0) + ((md an ad 2 0 0) * (x0))) + ((md an ad 2 0 1) * (x1)))), (11, some (((md an ad 3 1 0) + ((md an ad 2 1 0) * (x0))) + ((md an ad 2 1 1) * (x1)))), (12, some (((mkRat 0 1) + ((md an ad 2 1 0) * (p00))) + ((md an ad 2 1 1) * (p10)))), (13, some (((mkRat 0 1) + ((md an ad 2 1 0) * (p01))) + ((md an ad 2 1 1) * (p11)))), (14, some (((md an ad 4 1 1) + ((((mkRat 0 1) + ((md an ad 2 1 0) * (p00))) + ((md an ad 2 1 1) * (p10))) * (md an ad 2 1 0))) + ((((mkRat 0 1) + ((md an ad 2 1 0) * (p01))) + ((md an ad 2 1 1) * (p11))) * (md an ad 2 1 1)))), (20, some (md an ad 2 1 1)), (21, some ((md an ad 2 1 1) * (x1)))]) := FS.sub (by rw [lk_up] at hF; exact hF) ⟨rfl, rfl, rfl, rfl, rfl, rfl, rfl, rfl, rfl, rfl, rfl, rfl, rfl, rfl, rfl, rfl, rfl, trivial⟩
  intro x9 e9
  obtain rfl : x9 = 1 := by rw [e9]; decide
  rw [wl_X7_doPredict_289]
  refine ⟨fun hc => absurd hc (by decide), fun _ => ?_⟩
  rw [show (10 + 1 : Int32) = nI 11 from by decide]
  refine sp_same (d := 1) (a := 11) hF (by decide) (by decide) (by decide) rfl ?_
  intro pi le sg hF
  have z76 : sz (((md an ad 3 1 0) + ((md an ad 2 1 0) * (x0))) + ((md an ad 2 1 1) * (x1))) 325 := z74
  have hF : FS pi le sg (lk [(0, some (((md an ad 3 0 0) + ((md an ad 2 0 0) * (x0))) + ((md an ad 2 0 1) * (x1)))), (1, some (((md an ad 3 1 0) + ((md an ad 2 1 0) * (x0))) + ((md an ad 2 1 1) * (x1)))), (2, some (((md an ad 4 0 0) + ((((mkRat 0 1) + ((md an ad 2 0 0) * (p00))) + ((md an ad 2 0 1) * (p10))) * (md an ad 2 0 0))) + ((((mkRat 0 1) + ((md an ad 2 0 0) * (p01))) + ((md an ad 2 0 1) * (p11))) * (md an ad 2 0 1)))), (3, some (((md an ad 4 0 1) + ((((mkRat 0 1) + ((md an ad 2 0 0) * (p00))) + ((md an ad 2 0 1) * (p10))) * (md an ad 2 1 0))) + ((((mkRat 0 1) + ((md an ad 2 0 0) * (p01))) + ((md an ad 2 0 1) * (p11))) * (md an ad 2 1 1)))), (4, some (((md an ad 4 1 0) + ((((mkRat 0 1) + ((md an ad 2 1 0) * (p00))) + ((md an ad 2 1 1) * (p10))) * (md an ad 2 0 0))) + ((((mkRat 0 1) + ((md an ad 2 1 0) * (p01))) + ((md an ad 2 1 1) * (p11))) * (md an ad 2 0 1)))), (5, some (((md an ad 4 1 1) + ((((mkRat 0 1) + ((md an ad 2 1 0) * (p00))) + ((md an ad 2 1 1) * (p10))) * (md an ad 2 1 0))) + ((((mkRat 0 1) + ((md an ad 2 1 0) * (p01))) + ((md an ad 2 1 1) * (p11))) * (md an ad 2 1 1)))), (6, o6), (7, o7), (8, o8), (9, o9), (10, some (((md an ad 3 0 0) + ((md an ad 2 0 0) * (x0))) + ((md an ad 2 0 1) * (x1)))), (11, some (((md an ad 3 1 0) + ((md an ad 2 1 0) * (x0))) + ((md an ad 2 1 1) * (x1)))), (12, some (((mkRat 0 1) + ((md an ad 2 1 0) * (p00))) + ((md an ad 2 1 1) * (p10)))), (13, some (((mkRat 0 1) + ((md an ad 2 1 0) * (p01))) + ((md an ad 2 1 1) * (p11)))), (14, some (((md an ad 4 1 1) + ((((mkRat 0 1) + ((md an ad 2 1 0) * (p00))) + ((md an ad 2 1 1) * (p10))) * (md an ad 2 1 0))) + ((((mkRat 0 1) + ((md an ad 2 1 0) * (p01))) + ((md an ad 2 1 1) * (p11))) * (md an ad 2 1 1)))), (20, some (md an ad 2 1 1)), (21, some ((md an ad 2 1 1) * (x1)))]) := FS.sub (by rw [lk_up] at hF; exact hF) ⟨rfl, rfl, rfl, rfl, rfl, rfl, rfl, rfl, rfl, rfl, rfl, rfl, rfl, rfl, rfl, rfl, rfl, trivial⟩
  intro x9 e9
  obtain rfl : x9 = 2 := by rw [e9]; decide
  rw [wl_X7_doPredict_289]
  refine ⟨fun _ => ?_, fun hc => absurd (by decide) hc⟩
  exact k _ _ _ _ (FS.sub hF ⟨rfl, rfl, rfl, rfl, rfl, rfl, rfl, rfl, rfl, rfl, trivial⟩)
