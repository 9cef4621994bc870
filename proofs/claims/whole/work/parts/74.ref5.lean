/-! ===== the reference's scaled (own work) ===== -/
theorem or16 {z d : Nat} (hz : z < 281474976710656) (hd : d < 65536) : lI (z : Nat) <<< ((16 : Int32).toInt64 &&& 63) ||| (nI d).toInt64 = lI ((z * 65536 + d : Nat) : Int) := by
  rw [lI_shl16, i_l _ (by omega), show ((z : Int) * 65536) = ((z * 65536 : Nat) : Int) by omega, lI_or (by omega) (by omega)]
  congr 1
  have := Nat.two_pow_add_eq_or_of_lt (i := 16) (b := d) (by omega) z
  rw [show z * 65536 = 2 ^ 16 * z by omega, ← this]
theorem sc_digits (q : Nat) : ((dg q 3 * 65536 + dg q 2) * 65536 + dg q 1) * 65536 + dg q 0 = q % tp 4 := by
  have h := vl_dg q 4
  rw [← h]
  simp only [vl, tp_0]
  have t1 : tp 1 = 65536 := tp_1
  have t2 : tp 2 = 65536 * 65536 := by rw [show (2 : Nat) = 1 + 1 from rfl, tp_succ, t1]
  have t3 : tp 3 = 65536 * 65536 * 65536 := by rw [show (3 : Nat) = 2 + 1 from rfl, tp_succ, t2]
  rw [t1, t2, t3]
  omega
theorem e_sc100 {th : Int32} {pi le sg wo : Nat → Int32} {v : Nat → Nat} {n sd m : Int32} {q f c : Nat} {post : Int64 → Int32 → (Nat → Int32) → (Nat → Int32) → (Nat → Int32) → Prop} (r : RS pi le v) (hq : v 60 = q) (hf : f < 24) (hc : c ≤ 1)
    (k : ∀ R : Nat, R = min (q + c) 1000000000000000000 → (0 ≤ sg f → post (lI (R : Nat)) th pi le wo) ∧ (¬ 0 ≤ sg f → post (lI (-(R : Int))) th pi le wo)) : wj_X7_scaled_100 n sd m sg post th pi le wo (nI f) (nI c) := by
  have fin : ∀ R : Nat, R = min (q + c) 1000000000000000000 → wj_X7_scaled_208 n sd m sg post th pi le wo (nI f) (lI (R : Nat)) := by
    intro R hR
    obtain ⟨k1, k2⟩ := k R hR
    refine ⟨vp_in_nI hf (by decide), ?_⟩
    rw [nI_clamp (by omega)]
    refine ⟨k1, fun z => ?_⟩
    have := k2 z
    rw [wj_X7_scaled_226, lI_neg]
    exact this
  have big : (1000000000000000000 : Int64) = lI ((1000000000000000000 : Nat) : Int) := rfl
  have n194 : ∀ W : Nat, W ≤ 1000000000000000001 → min W 1000000000000000000 = min (q + c) 1000000000000000000 → wj_X7_scaled_194 n sd m sg post th pi le wo (nI f) (lI (W : Nat)) := by
    intro W hW hm
    rw [wj_X7_scaled_194, big, lI_le (by omega) (by omega)]
    refine ⟨fun z => fin W (by omega), fun z => fin _ (by omega)⟩
  have far : 1000000000000000000 < q → ∀ x7, wj_X7_scaled_163 n sd m sg post th pi le wo (nI f) (nI c) x7 := by
    intro h x7
    refine ⟨fun z => absurd z (by decide), fun _ => ?_⟩
    rw [big]
    exact n194 _ (by omega) (by omega)
  rw [wj_X7_scaled_100]
  refine ⟨5, ?_⟩
  have d3 := dg_lt q 3
  have d2 := dg_lt q 2
  have d1 := dg_lt q 1
  have d0 := dg_lt q 0
  rw [wl_X7_scaled_108]
  refine ⟨fun z => absurd z (by decide), fun _ => sp_digit (a := 60) (i := 3) r (by decide) (by decide) (fun x7 e7 x9 e9 => ?_)⟩
  rw [hq, show (0 : Int64) = lI ((0 : Nat) : Int) from rfl, or16 (by decide) d3] at e7
  subst e7
  rw [show (3 : Int32) + (-1) = nI 2 from rfl] at e9
  subst e9
  rw [wl_X7_scaled_108]
  refine ⟨fun z => absurd z (by decide), fun _ => sp_digit (a := 60) (i := 2) r (by decide) (by decide) (fun x7 e7 x9 e9 => ?_)⟩
  rw [hq, or16 (by omega) d2] at e7
  subst e7
  rw [show nI 2 + (-1) = nI 1 from rfl] at e9
  subst e9
  rw [wl_X7_scaled_108]
  refine ⟨fun z => absurd z (by decide), fun _ => sp_digit (a := 60) (i := 1) r (by decide) (by decide) (fun x7 e7 x9 e9 => ?_)⟩
  rw [hq, or16 (by omega) d1] at e7
  subst e7
  rw [show nI 1 + (-1) = nI 0 from rfl] at e9
  subst e9
  rw [wl_X7_scaled_108]
  refine ⟨fun z => absurd z (by decide), fun _ => sp_digit (a := 60) (i := 0) r (by decide) (by decide) (fun x7 e7 x9 e9 => ?_)⟩
  rw [hq, or16 (by omega) d0] at e7
  rw [Nat.zero_mul, Nat.zero_add, sc_digits] at e7
  subst e7
  rw [show nI 0 + (-1) = (-1 : Int32) from rfl] at e9
  subst e9
  rw [wl_X7_scaled_108]
  refine ⟨fun _ => ⟨vp_in_nI (n := 60) (N := 64) (by decide) (by decide), ?_⟩, fun z => absurd (by decide) z⟩
  rw [show ((60 : Int32)).toNatClampNeg = 60 by decide, (r 60 (by decide)).2.1, hq]
  have l1500 := (r 60 (by decide)).1
  rw [hq] at l1500
  rw [show (4 : Int32) = nI 4 from rfl, nI_ltI (by decide) (by omega)]
  have t4 := tp4
  refine ⟨fun h4 => far ?_ _, fun h4 => ?_⟩
  · have := tp_le_of_lt_ln h4
    omega
  · have hq64 : q < tp 4 := ln_le.mp (by omega)
    rw [Nat.mod_eq_of_lt hq64]
    rw [t4] at hq64
    by_cases hq63 : q < 9223372036854775808
    · rw [show (0 : Int64) = lI 0 from rfl, lI_lt (by omega) (by decide), big, lI_le (by omega) (by omega)]
      refine ⟨fun z => absurd z (by omega), fun _ => ⟨fun z => ⟨fun _ => ⟨fun e => ?_, fun e x7 e7 => ?_⟩, fun z => absurd rfl z⟩, fun z => far (by omega) _⟩⟩
      · obtain rfl : c = 0 := by
          rw [show (0 : Int32) = nI 0 from rfl, nI_eq (by omega) (by decide)] at e
          exact e
        exact n194 q (by omega) (by omega)
      · obtain rfl : c = 1 := by
          rcases (show c = 0 ∨ c = 1 by omega) with w | w
          · subst w
            exact absurd rfl e
          · exact w
        subst e7
        rw [show (1 : Int64) = lI 1 from rfl, lI_add, show ((q : Int) + 1) = ((q + 1 : Nat) : Int) by omega]
        exact n194 (q + 1) (by omega) (by omega)
    · have neg : lI (q : Int) < 0 := by
        have e : lI (q : Int) = lI ((q : Int) - 18446744073709551616) := by
          refine Int64.toBitVec_inj.mp (BitVec.eq_of_toNat_eq ?_)
          rw [lI_bv, lI_bv]
          omega
        rw [e, show (0 : Int64) = lI 0 from rfl, lI_lt (by omega) (by decide)]
        omega
      exact ⟨fun _ => far (by omega) _, fun z => absurd neg z⟩
theorem sc_floor {n : Int} {d f q c : Nat} (hd : 0 < d) (hq : q = n.natAbs * f / d) (hc : c = if n.sign < 0 ∧ 0 < n.natAbs * f % d then 1 else 0) (R : Nat) (hR : R = min (q + c) 1000000000000000000) : (0 ≤ n.sign → cl (n * f / d) = R) ∧ (n.sign < 0 → cl (n * f / d) = -(R : Int)) := by
  refine ⟨fun h => ?_, fun h => ?_⟩
  · have hn : 0 ≤ n := Int.sign_nonneg_iff.mp h
    obtain ⟨N, rfl⟩ : ∃ N : Nat, n = (N : Int) := ⟨n.natAbs, by omega⟩
    rw [Int.natAbs_natCast] at hq
    have e : ((N : Int) * (f : Int) / (d : Int)) = ((q : Nat) : Int) := by
      rw [hq, ← Int.natCast_mul, ← Int.natCast_ediv]
    rw [e]
    have hc0 : c = 0 := by
      rw [hc, if_neg (fun z => by omega)]
    unfold cl
    rw [Int.natAbs_natCast]
    by_cases hb : 1000000000000000000 ≤ q
    · rw [if_pos hb, Int.sign_eq_one_of_pos (by omega)]
      omega
    · rw [if_neg hb]
      omega
  · have hn : n < 0 := Int.sign_neg_iff.mp h
    obtain ⟨N, rfl⟩ : ∃ N : Nat, n = -(N : Int) := ⟨n.natAbs, by omega⟩
    rw [Int.natAbs_neg, Int.natAbs_natCast] at hq hc
    have e : (-(N : Int) * (f : Int) / (d : Int)) = -((q + c : Nat) : Int) := by
      have hdm := Nat.div_add_mod (N * f) d
      have hml := Nat.mod_lt (N * f) hd
      rw [← hq] at hdm
      have e1 : -(N : Int) * (f : Int) = -((N * f : Nat) : Int) := by
        rw [Int.natCast_mul, Int.neg_mul]
      rw [e1]
      generalize N * f = T at *
      by_cases hr : 0 < T % d
      · rw [if_pos ⟨h, hr⟩] at hc
        subst hc
        have e2 : -((T : Nat) : Int) = (d - (T % d : Nat) : Int) + (d : Int) * (-((q + 1 : Nat) : Int)) := by
          have e3 : ((T : Nat) : Int) = (d : Int) * (q : Int) + ((T % d : Nat) : Int) := by
            rw [← Int.natCast_mul, ← Int.natCast_add, hdm]
          have e4 : ((q + 1 : Nat) : Int) = (q : Int) + 1 := by omega
          rw [e3, e4]
          grind
        rw [e2, Int.add_mul_ediv_left _ _ (by omega), Int.ediv_eq_zero_of_lt (by omega) (by omega), Int.zero_add]
      · rw [if_neg (fun z => hr z.2)] at hc
        subst hc
        have e3 : ((T : Nat) : Int) = (d : Int) * (q : Int) := by
          rw [← Int.natCast_mul]
          congr 1
          omega
        rw [e3, ← Int.mul_neg, Int.mul_ediv_cancel_left _ (by omega), Nat.add_zero]
    rw [e]
    unfold cl
    rw [Int.natAbs_neg, Int.natAbs_natCast]
    by_cases hb : 1000000000000000000 ≤ q + c
    · rw [if_pos hb, Int.sign_eq_neg_one_of_neg (by omega)]
      omega
    · rw [if_neg hb]
      omega
theorem e_scaled {th : Int32} {pi le sg wo : Nat → Int32} {y1 y2 y3 y4 : Int32} {s : AS} {Q : Nat → Option Rat} {post : Int64 → Int32 → (Nat → Int32) → (Nat → Int32) → (Nat → Int32) → Prop} (hF : FS pi le sg Q) (hQ : RQ s Q) (ok : s.ok) (ok2 : s.ok2)
    (k1 : ¬ askS s y1 → ∀ w i j, askV s y1 y2 y3 w i j → ∀ f : Nat, y4 = nI f → 1 ≤ f → f ≤ 1000000 → ∀ pi' le' wo', FS pi' le' sg Q → post (lI (cl ((s.val w i j).num * f / (s.val w i j).den))) 0 pi' le' wo') (kS : askS s y1 → post 0 1 pi le wo) (kA : ¬ askS s y1 → ¬ ((∃ w i j, askV s y1 y2 y3 w i j) ∧ ¬ y4 < 1 ∧ y4 ≤ 1000000) → post 0 2 pi le wo) : wp_X7_scaled th (nI s.n) (nI s.sd) (nI s.m) pi le sg wo y1 y2 y3 y4 post := by
  refine e_asked ok (fun hS w i j hV => ⟨fun z => absurd rfl z, fun _ => ?_⟩) (fun hS => ⟨fun _ => ⟨fun z => absurd z (by decide), fun _ => kS hS⟩, fun z => absurd z (by decide)⟩) (fun hS hn => ⟨fun _ => ⟨fun z => absurd z (by decide), fun _ => kA hS (fun z => hn z.1)⟩, fun z => absurd z (by decide)⟩)
  obtain ⟨g1, g2, g3, g4⟩ := fx_ok ok ok2 hQ hS hV
  have bad : ¬ (¬ y4 < 1 ∧ y4 ≤ 1000000) → wj_X7_scaled_29 (nI s.n) (nI s.sd) (nI s.m) sg post 0 pi le wo y4 (nI (fx w i j)) := fun z => ⟨fun w => absurd w (by decide), fun _ => kA hS (fun y => z y.2)⟩
  refine ⟨fun h => bad (fun z => z.1 h), fun h0 => ⟨fun h1 => ⟨fun _ => ?_, fun z => absurd rfl z⟩, fun h => bad (fun z => h z.2)⟩⟩
  obtain ⟨f, rfl, hf⟩ := i32_nat (x := y4) (fun z => h0 (by
    obtain ⟨y, rfl, hy⟩ := i32_rng y4
    rw [show (0 : Int32) = iI 0 from rfl, iI_lt hy (by decide)] at z
    rw [show (1 : Int32) = iI 1 from rfl, iI_lt hy (by decide)]
    omega))
  rw [show (1 : Int32) = nI 1 from rfl, nI_ltI hf (by decide)] at h0
  rw [show (1000000 : Int32) = nI 1000000 from rfl, nI_leI hf (by decide)] at h1
  have K := k1 hS w i j hV f rfl (by omega) h1
  obtain ⟨v, r, hv⟩ := hF
  obtain ⟨f1, f2, f3⟩ := hv _ _ g1 g3
  refine sp_small (d := 56) r (by decide) hf (fun pi1 le1 wo1 r1 => ?_)
  rw [show (2 : Int32) * nI (fx w i j) = nI (2 * fx w i j) from n2 _]
  have v1 : va_up v 56 f (2 * fx w i j) = (s.val w i j).num.natAbs := by rw [va_up_ne _ _ (by omega), f1]
  have v2 : va_up v 56 f 56 = f := va_up_self _ _ _
  have lf : ln f ≤ 2 := ln_le.mpr (by rw [show (2 : Nat) = 1 + 1 from rfl, tp_succ, tp_1]; omega)
  have lm := ln_mul_le (s.val w i j).num.natAbs f
  have l1 := g4.1
  refine sp_times (d := 57) (a := 2 * fx w i j) (b := 56) r1 (by decide) (by omega) (by decide) (by rw [v1, v2]; omega) (fun pi2 le2 wo2 r2 => ?_)
  rw [v1, v2] at r2
  rw [nI_1]
  have dpos : 0 < (s.val w i j).den := Nat.pos_of_ne_zero (s.val w i j).den_nz
  have w1 : va_up (va_up v 56 f) 57 ((s.val w i j).num.natAbs * f) 57 = (s.val w i j).num.natAbs * f := va_up_self _ _ _
  have w2 : va_up (va_up v 56 f) 57 ((s.val w i j).num.natAbs * f) (2 * fx w i j + 1) = (s.val w i j).den := by rw [va_up_ne _ _ (by omega), va_up_ne _ _ (by omega), f2]
  refine sp_divide (a := 57) (b := 2 * fx w i j + 1) r2 (by decide) (by omega) (by rw [w2]; omega) (by rw [w1]; omega) (fun pi3 le3 wo3 v3 r3 d1 d2 d3 => ?_)
  rw [w1, w2] at d1 d2
  have hF3 : FS pi3 le3 sg Q := ⟨v3, r3, fun f' q' hf' hq' => by
    obtain ⟨a1, a2, a3⟩ := hv f' q' hf' hq'
    refine ⟨?_, ?_, a3⟩
    · rw [d3 _ (by omega), va_up_ne _ _ (by omega), va_up_ne _ _ (by omega)]
      exact a1
    · rw [d3 _ (by omega), va_up_ne _ _ (by omega), va_up_ne _ _ (by omega)]
      exact a2⟩
  have K3 := K pi3 le3 wo3 hF3
  refine ⟨vp_in_nI g1 (by decide), ?_⟩
  rw [nI_clamp (by omega), f3]
  have sg0 : 0 ≤ iI (s.val w i j).num.sign ↔ 0 ≤ (s.val w i j).num.sign := by
    have := sign_rng (s.val w i j).num
    rw [show (0 : Int32) = iI 0 from rfl, iI_le (by decide) (by omega)]
  have last : ∀ c : Nat, c = (if (s.val w i j).num.sign < 0 ∧ 0 < (s.val w i j).num.natAbs * f % (s.val w i j).den then 1 else 0) → wj_X7_scaled_100 (nI s.n) (nI s.sd) (nI s.m) sg post 0 pi3 le3 wo3 (nI (fx w i j)) (nI c) := by
    intro c hc
    refine e_sc100 r3 d1 g1 (by rw [hc]; split <;> omega) (fun R hR => ?_)
    obtain ⟨x1, x2⟩ := sc_floor dpos rfl hc R hR
    rw [f3, sg0]
    refine ⟨fun z => ?_, fun z => ?_⟩
    · rw [← x1 z]
      exact K3
    · rw [← x2 (by omega)]
      exact K3
  rw [sg0]
  refine ⟨fun z => last 0 ?_, fun z => ⟨vp_in_nI (n := 61) (N := 64) (by decide) (by decide), ?_⟩⟩
  · rw [if_neg (fun y => by omega)]
  · rw [show ((61 : Int32)).toNatClampNeg = 61 by decide, (r3 61 (by decide)).2.1, d2]
    have lb := (r3 61 (by decide)).1
    rw [d2] at lb
    rw [show (0 : Int32) = nI 0 from rfl, nI_leI (by omega) (by decide)]
    refine ⟨fun y => last 0 ?_, fun y => last 1 ?_⟩
    · have := ln_eq_0 (by omega : ln ((s.val w i j).num.natAbs * f % (s.val w i j).den) = 0)
      rw [if_neg (fun y => by omega)]
    · have : (s.val w i j).num.natAbs * f % (s.val w i j).den ≠ 0 := fun e => y (by rw [e, ln_0]; exact Nat.le_refl 0)
      rw [if_pos ⟨by omega, by omega⟩]
