/-! ===== the class's asked fractions: what is done with one (own work) ===== -/
section
variable {G : Nat → Prop}
theorem mk_num {n : Int} {d : Nat} (hd : 0 < d) : (mkRat n d).num = n.tdiv (Nat.gcd d n.natAbs : Nat) ∧ (mkRat n d).den = d / Nat.gcd d n.natAbs := by
  have hd0 : d ≠ 0 := by omega
  constructor
  · rw [Rat.num_mkRat, if_neg hd0, Nat.gcd_comm]
    have h1 : ((Nat.gcd n.natAbs d : Nat) : Int) ∣ n := Int.ofNat_dvd_left.mpr (Nat.gcd_dvd_left _ _)
    rw [Int.tdiv_eq_ediv_of_dvd h1]
  · rw [Rat.den_mkRat, if_neg hd0, Nat.gcd_comm]
theorem mk_eq {n : Int} {d : Nat} (hd : 0 < d) : n * ((mkRat n d).den : Int) = (mkRat n d).num * (d : Int) := by
  have h := Rat.mkRat_self (mkRat n d)
  rw [Rat.mkRat_eq_iff (Rat.den_nz _) (by omega)] at h
  exact h.symm
theorem mk_sign {n : Int} {d : Nat} (hd : 0 < d) : (mkRat n d).num.sign = n.sign := by
  have h := congrArg Int.sign (mk_eq (n := n) hd)
  rw [Int.sign_mul, Int.sign_mul, Int.sign_eq_one_of_pos (show (0 : Int) < d by omega), Int.sign_eq_one_of_pos (show (0 : Int) < ((mkRat n d).den : Int) by have := (mkRat n d).den_pos; omega), Int.mul_one, Int.mul_one] at h
  exact h.symm
theorem sf_sense {h : xH} {fr : Nat} {x : Rat} {post : Int32 → Prop} (F : Fr G h fr x) (k : post (iI x.num.sign)) : wp_X0_sense h fr post := by
  obtain ⟨a, b, n, d, lo, h1, h2, h3, h4, h5, -⟩ := F
  obtain ⟨dd, nn, w1, -⟩ := h2
  rw [h5, mk_sign h4] at k
  exact ⟨_, h1, _, rfl, _, w1, _, w1, _, rfl, k⟩
theorem sf_lowest {V : Nat → Option (Nat × (Nat → Rat))} {h0 : xH} {fr mc ms : Nat} {x : Rat} {post : xH → Prop} (F : Fr G h0 fr x) (hV : VK G V h0) (hG : ∀ q, h0 q = none → G q) (hmc : 18 ≤ mc) (hms : 1000 ≤ ms)
    (k : ∀ h' a b, Mv h0 h' → (∀ c e, c ≠ fr → h0 c = some (.inr e) → h' c = some (.inr e)) → (∀ c, h' c = none → h0 c = none) → VK G V h' → h' fr = some (.inr (0, [.ref a, .ref b, .int 1])) → Wh G h' a x.num → Wh G h' b (x.den : Int) → post h') : wp_X0_bringToLowestTerms h0 mc ms fr post := by
  have F0 := F
  obtain ⟨a, b, n, d, lo, h1, h2, h3, h4, h5, h6, b1, b2⟩ := F
  have l1 := ln_bits b1
  have l2 := ln_bits (show ((d : Int)).natAbs < 2 ^ 2560 from b2)
  refine ⟨_, h1, _, rfl, fun hlo => ⟨_, rfl, _, rfl, 6, 330, by omega, by omega, sw_commonDivisor h3 h2 hG (by omega) (by omega) (fun g h7 e7 v7 => ?_)⟩, fun hlo => ?_⟩
  · rw [Int.natAbs_natCast] at v7
    obtain ⟨mn, md⟩ := mk_num (n := n) h4
    obtain ⟨fs, hfs⟩ := (h2.ext e7).ob
    refine ⟨_, e7 _ _ h1, _, rfl, fs, hfs, 6, 332, by omega, by omega, sw_dividedBy (h2.ext e7) v7 (fun q hq => hG q (e7.none hq)) (by omega) (by omega) (fun a' h8 e8 v8 => ?_)⟩
    rw [← mn, ← h5] at v8
    have h8f := e8 _ _ (e7 _ _ h1)
    refine ⟨_, h8f, Nat.le_of_ble_eq_true rfl, fun h9 e9 => ⟨_, rfl, ?_⟩⟩
    have h9c : ∀ c, c ≠ fr → h9 c = h8 c := fun c hc => by rw [e9, x_up_n hc]
    have m9 : Mv h8 h9 := Mv.off h8f (Or.inl rfl) h9c
    have h9f : h9 fr = some (.inr (0, [.ref a', .ref b, .int lo])) := by rw [e9, x_up_s]; rfl
    have V9 : Wh G h9 b (d : Int) := ((h3.ext e7).ext e8).mv m9
    obtain ⟨fs9, hfs9⟩ := V9.ob
    have nn : ∀ c, h9 c = none → h8 c = none := fun c hc => by
      by_cases w : c = fr
      · rw [w, h9f] at hc; cases hc
      · rw [h9c c w] at hc; exact hc
    refine ⟨fs9, hfs9, 6, 332, by omega, by omega, sw_dividedBy V9 ((v7.ext e8).mv m9) (fun q hq => hG q ((e7.tr e8).none (nn q hq))) (by omega) (by omega) (fun b' h10 e10 v10 => ?_)⟩
    rw [← Int.ofNat_tdiv, ← md, ← h5] at v10
    have h10f := e10 _ _ h9f
    refine ⟨_, h10f, Nat.le_of_ble_eq_true rfl, fun h11 e11 => ⟨Nat.le_of_ble_eq_true rfl, fun h12 e12 => ?_⟩⟩
    have h12c : ∀ c, c ≠ fr → h12 c = h10 c := fun c hc => by rw [e12, x_up_n hc, e11, x_up_n hc]
    have h12f : h12 fr = some (.inr (0, [.ref a', .ref b', .int 1])) := by rw [e12, x_up_s]; rfl
    have m12 : Mv h10 h12 := Mv.off h10f (Or.inl rfl) h12c
    have m09 : Mv h0 h9 := (e7.tr e8).mv.tr m9
    have mm : Mv h0 h12 := (m09.tr e10.mv).tr m12
    have F12 : Fr G h12 fr x := ⟨a', b', x.num, x.den, 1, h12f, ((v8.mv m9).ext e10).mv m12, v10.mv m12, x.den_pos, (Rat.mkRat_self x).symm, Or.inr ⟨rfl, rfl, rfl⟩, ?_, ?_⟩
    · have off : ∀ c e, c ≠ fr → h0 c = some e → h12 c = some e := fun c e hc he => by
        rw [h12c c hc]
        exact e10 _ _ (by rw [h9c c hc]; exact e8 _ _ (e7 _ _ he))
      refine k h12 a' b' mm (fun c e hc he => off c _ hc he) (fun c hc => ?_) (hV.step (fun q e he => off q _ (fun w => by rw [w, h1] at he; cases he) he) (fun y v Fy => ?_)) h12f (((v8.mv m9).ext e10).mv m12) (v10.mv m12)
      · by_cases w : c = fr
        · rw [w, h12f] at hc; cases hc
        · rw [h12c c w] at hc
          exact (e7.tr e8).none (nn c (e10.none hc))
      · by_cases w : y = fr
        · subst w
          rw [Fy.uniq F0]
          exact F12
        · have Fy' := Fy
          obtain ⟨_, _, _, _, _, f1, -⟩ := Fy'
          exact Fy.keep ((off _ _ w f1).trans f1.symm) mm
    · rw [h5, mn]
      refine Nat.lt_of_le_of_lt ?_ b1
      rw [Int.natAbs_tdiv]
      exact Nat.div_le_self _ _
    · rw [h5, md]
      exact Nat.lt_of_le_of_lt (Nat.div_le_self _ _) b2
  · rcases h6 with w | ⟨w1, w2, w3⟩
    · exact absurd w hlo
    · subst w1
      rw [w2] at h2
      rw [w3] at h3
      exact k h0 a b (Ext.rf _).mv (fun _ _ _ he => he) (fun _ hc => hc) hV h1 h2 h3
theorem sf_against {h0 : xH} {fr mc ms ob : Nat} {oa : Int} {x : Rat} {post : Int32 → xH → Prop} (F : Fr G h0 fr x) (hG : ∀ q, h0 q = none → G q) (ho : oa.natAbs ≤ 1000) (hob : ob ≤ 1000) (hmc : 11 ≤ mc) (hms : 600 ≤ ms)
    (k : ∀ h', Ext h0 h' → post (iI (x.num * ob - x.den * oa).sign) h') : wp_X0_against h0 mc ms fr (iI oa) (nI ob) post := by
  obtain ⟨a, b, n, d, lo, h1, h2, h3, h4, h5, h6, b1, b2⟩ := F
  have l1 := ln_bits b1
  have l2 := ln_bits (show ((d : Int)).natAbs < 2 ^ 2560 from b2)
  have lo1 : ln oa.natAbs ≤ 1 := ln_small (by omega)
  have lo2 : ln ((ob : Int)).natAbs ≤ 1 := ln_small (by omega)
  have key : (x.num * ob - x.den * oa).sign = (n * ob + -((d : Int) * oa)).sign := by
    have e := mk_eq (n := n) h4
    rw [← h5] at e
    have hx : (0 : Int) < x.den := by have := x.den_pos; omega
    have hd : (0 : Int) < d := by omega
    have e1 : (x.num * ob - x.den * oa) * d = (n * ob + -((d : Int) * oa)) * x.den := by
      rw [Int.sub_mul, Int.add_mul, Int.neg_mul, show x.num * ob * d = x.num * d * ob by ac_rfl, ← e, show n * (x.den : Int) * ob = n * ob * x.den by ac_rfl, show (x.den : Int) * oa * d = d * oa * x.den by ac_rfl, Int.sub_eq_add_neg]
    have e2 := congrArg Int.sign e1
    rw [Int.sign_mul, Int.sign_mul, Int.sign_eq_one_of_pos hx, Int.sign_eq_one_of_pos hd, Int.mul_one, Int.mul_one] at e2
    exact e2
  rw [key] at k
  refine ⟨_, h1, _, rfl, 2, 7, by omega, by omega, ?_⟩
  rw [i_l _ (by omega)]
  refine sw_of (z := (ob : Int)) (by omega) hG (Nat.le_refl _) (Nat.le_refl _) (fun r1 g1 e1 v1 => ?_)
  obtain ⟨fs, hfs⟩ := (h2.ext e1).ob
  refine ⟨fs, hfs, 2, 165, by omega, by omega, sw_times (h2.ext e1) v1 (fun q hq => hG q (e1.none hq)) (by omega) (by omega) (by omega) (fun r2 g2 e2 v2 => ?_)⟩
  have x2 := e1.tr e2
  refine ⟨_, x2 _ _ h1, _, rfl, 2, 7, by omega, by omega, ?_⟩
  rw [iI_l (by omega) (by omega)]
  refine sw_of (by omega) (fun q hq => hG q (x2.none hq)) (Nat.le_refl _) (Nat.le_refl _) (fun r3 g3 e3 v3 => ?_)
  have x3 := x2.tr e3
  obtain ⟨fs3, hfs3⟩ := (h3.ext x3).ob
  refine ⟨fs3, hfs3, 2, 165, by omega, by omega, sw_times (h3.ext x3) v3 (fun q hq => hG q (x3.none hq)) (by omega) (by omega) (by omega) (fun r4 g4 e4 v4 => ?_)⟩
  have x4 := x3.tr e4
  obtain ⟨fs4, hfs4⟩ := v4.ob
  refine ⟨fs4, hfs4, 1, 3, by omega, by omega, sw_negative v4 (by omega) (by omega) (fun r5 g5 e5 v5 => ?_)⟩
  have x5 := x4.tr e5
  obtain ⟨fs5, hfs5⟩ := (((v2.ext e3).ext e4).ext e5).ob
  have q1 := ln_mul_le n.natAbs ob
  have q2 := ln_mul_le d oa.natAbs
  refine ⟨fs5, hfs5, 2, 170, by omega, by omega, sw_plus (N := 163) (((v2.ext e3).ext e4).ext e5) v5 (fun q hq => hG q (x5.none hq)) ⟨?_, ?_⟩ (by omega) (by omega) (by omega) (fun r6 g6 e6 v6 => ?_)⟩
  · rw [Int.natAbs_mul, Int.natAbs_natCast]
    rw [Int.natAbs_natCast] at lo2
    omega
  · rw [Int.natAbs_neg, Int.natAbs_mul, Int.natAbs_natCast]
    rw [Int.natAbs_natCast] at l2
    omega
  · obtain ⟨dd, nn, w1, -⟩ := v6
    exact ⟨_, w1, _, w1, _, rfl, k g6 (x5.tr e6)⟩
/-- a number that a long can't hold well is cut off -/
def cl (z : Int) : Int := if 1000000000000000000 ≤ z.natAbs then z.sign * 1000000000000000000 else z
theorem floor_neg {M : Int} {d : Nat} (hd : 0 < d) (hM : M < 0) : (M + -(d : Int) + 1).tdiv d = M / d := by
  have hd' : (0 : Int) < d := by omega
  have h1 : (M + -(d : Int) + 1) ≤ 0 := by omega
  obtain ⟨w, hw⟩ : ∃ w : Int, w = -(M + -(d : Int) + 1) := ⟨_, rfl⟩
  have e1 : (M + -(d : Int) + 1).tdiv d = -(w.tdiv d) := by rw [hw, Int.neg_tdiv, Int.neg_neg]
  rw [e1, Int.tdiv_eq_ediv_of_nonneg (by omega)]
  have a1 := Int.mul_ediv_add_emod w d
  have a2 := Int.emod_nonneg w (show (d : Int) ≠ 0 by omega)
  have a3 := Int.emod_lt_of_pos w hd'
  refine (Int.ediv_eq_iff_of_pos hd').mpr ⟨?_, ?_⟩ |>.symm
  · rw [Int.neg_mul, Int.mul_comm]
    omega
  · rw [Int.neg_mul, Int.mul_comm (w / (d : Int))]
    omega
theorem sf_multipleDown {h0 : xH} {fr mc ms f : Nat} {x : Rat} {post : Int64 → xH → Prop} (F : Fr G h0 fr x) (hG : ∀ q, h0 q = none → G q) (hf : f ≤ 1000000) (hmc : 19 ≤ mc) (hms : 900 ≤ ms)
    (k : ∀ h', Ext h0 h' → post (lI (cl (x.num * f / x.den))) h') : wp_X0_multipleDown h0 mc ms fr (nI f) post := by
  obtain ⟨a, b, n, d, lo, h1, h2, h3, h4, h5, h6, b1, b2⟩ := F
  have l1 := ln_bits b1
  have l2 := ln_bits (show ((d : Int)).natAbs < 2 ^ 2560 from b2)
  have lo2 : ln ((f : Int)).natAbs ≤ 2 := ln_le.mpr (by rw [Int.natAbs_natCast, show tp 2 = 4294967296 from by decide]; omega)
  have hd : (0 : Int) < d := by omega
  have key : x.num * f / x.den = n * f / d := by
    have e := mk_eq (n := n) h4
    rw [← h5] at e
    have hx : (0 : Int) < x.den := by have := x.den_pos; omega
    rw [← Int.mul_ediv_mul_of_pos_left (x.num * f) (x.den : Int) hd, show x.num * f * d = x.num * d * f by ac_rfl, ← e, show n * (x.den : Int) * f = n * f * x.den by ac_rfl, Int.mul_comm (x.den : Int) d, Int.mul_ediv_mul_of_pos_left _ _ hx]
  rw [key] at k
  have q1 := ln_mul_le n.natAbs f
  have lM : ln (n * (f : Int)).natAbs ≤ 163 := by
    rw [Int.natAbs_mul, Int.natAbs_natCast]
    rw [Int.natAbs_natCast] at lo2
    omega
  refine ⟨_, h1, _, rfl, 2, 7, by omega, by omega, ?_⟩
  rw [i_l _ (by omega)]
  refine sw_of (z := (f : Int)) (by omega) hG (Nat.le_refl _) (Nat.le_refl _) (fun r1 g1 e1 v1 => ?_)
  obtain ⟨fs, hfs⟩ := (h2.ext e1).ob
  refine ⟨fs, hfs, 2, 166, by omega, by omega, sw_times (h2.ext e1) v1 (fun q hq => hG q (e1.none hq)) (by omega) (by omega) (by omega) (fun r2 g2 e2 v2 => ?_)⟩
  have x2 := e1.tr e2
  have tail : ∀ {g : xH} {kc ks r : Nat} {z : Int}, Ext h0 g → Wh G g r z → ln z.natAbs ≤ 165 → z.tdiv d = n * f / d → 8 ≤ kc → 345 ≤ ks → wj_X0_multipleDown_39 post g kc ks fr r := by
    intro g kc ks r z xg vz lz ez hkc hks
    obtain ⟨fs3, hfs3⟩ := vz.ob
    refine ⟨_, xg _ _ h1, _, rfl, fs3, hfs3, 6, 338, by omega, by omega, sw_dividedBy vz (h3.ext xg) (fun q hq => hG q (xg.none hq)) (by omega) (by omega) (fun r4 g4 e4 v4 => ?_)⟩
    rw [ez] at v4
    have x4 := xg.tr e4
    refine ⟨2, 7, by omega, by omega, ?_⟩
    rw [show (1000000000000000000 : Int64) = lI 1000000000000000000 from rfl]
    refine sw_of (by decide) (fun q hq => hG q (x4.none hq)) (Nat.le_refl _) (Nat.le_refl _) (fun r5 g5 e5 v5 => ?_)
    have v45 := v4.ext e5
    have v45' := v45
    obtain ⟨dd, nn, w1, -⟩ := v45'
    have x5 := x4.tr e5
    have big : 1000000000000000000 ≤ (n * (f : Int) / d).natAbs → wp_X5_sense g5 r4 (fun (r_62 : Int32) => post (((r_62 : Int32).toInt64) * lI 1000000000000000000) g5) := by
      intro hb
      refine ⟨_, w1, _, rfl, ?_⟩
      have hs : -2 < (n * (f : Int) / d).sign ∧ (n * (f : Int) / d).sign < 2 := by rcases sgn3 (n * (f : Int) / d) with h | h | h <;> omega
      show post ((iI (n * (f : Int) / d).sign).toInt64 * lI 1000000000000000000) g5
      rw [iI_l (by omega) (by omega), lI_mul]
      have := k g5 x5
      rw [cl, if_pos hb] at this
      exact this
    refine ⟨_, w1, sw_sizeAgainst v45 v5 (fun lt => ⟨fun _ => ?_, fun hc => absurd (by decide) hc⟩) (fun eq => ⟨fun hc => absurd hc (by decide), fun _ => big ?_⟩) (fun gt => ⟨fun hc => absurd hc (by decide), fun _ => big ?_⟩)⟩
    · have hlt : (n * (f : Int) / d).natAbs < 1000000000000000000 := lt
      refine sw_asLong v45 (by omega) ?_
      have := k g5 x5
      rw [cl, if_neg (by omega)] at this
      exact this
    · have he : (n * (f : Int) / d).natAbs = 1000000000000000000 := eq
      omega
    · have he : 1000000000000000000 < (n * (f : Int) / d).natAbs := gt
      omega
  have v2' := v2
  obtain ⟨dd, nn, w1, -⟩ := v2'
  refine ⟨_, w1, _, w1, _, rfl, fun hc => ?_, fun hc => ?_⟩
  · have hM : 0 ≤ n * (f : Int) := by
      rcases Int.lt_or_le (n * (f : Int)) 0 with w | w
      · exact absurd hc (by rw [Int32.not_le]; exact sgn_lt.mpr w)
      · exact w
    exact tail x2 v2 (by omega) (Int.tdiv_eq_ediv_of_nonneg hM) (by omega) (by omega)
  · have hM : n * (f : Int) < 0 := sgn_lt.mp (Int32.not_le.mp hc)
    obtain ⟨fs3, hfs3⟩ := (h3.ext x2).ob
    refine ⟨_, x2 _ _ h1, _, rfl, fs3, hfs3, 1, 3, by omega, by omega, sw_negative (h3.ext x2) (by omega) (by omega) (fun r3 g3 e3 v3 => ?_)⟩
    have x3 := x2.tr e3
    obtain ⟨fs4, hfs4⟩ := (v2.ext e3).ob
    refine ⟨fs4, hfs4, 2, 170, by omega, by omega, sw_plus (N := 163) (v2.ext e3) v3 (fun q hq => hG q (x3.none hq)) ⟨lM, by rw [Int.natAbs_neg]; omega⟩ (by omega) (by omega) (by omega) (fun r4 g4 e4 v4 => ?_)⟩
    have x4 := x3.tr e4
    have lS : ln (n * (f : Int) + -(d : Int)).natAbs ≤ 164 := by
      have a1 := ln_add_le (x := (n * (f : Int)).natAbs) (y := d) (N := 163) lM (by rw [Int.natAbs_natCast] at l2; omega)
      refine Nat.le_trans (ln_mono ?_) a1
      omega
    refine ⟨2, 7, by omega, by omega, ?_⟩
    rw [show (1 : Int64) = lI 1 from rfl]
    refine sw_of (by decide) (fun q hq => hG q (x4.none hq)) (Nat.le_refl _) (Nat.le_refl _) (fun r5 g5 e5 v5 => ?_)
    have x5 := x4.tr e5
    obtain ⟨fs6, hfs6⟩ := (v4.ext e5).ob
    refine ⟨fs6, hfs6, 2, 170, by omega, by omega, sw_plus (N := 164) (v4.ext e5) v5 (fun q hq => hG q (x5.none hq)) ⟨lS, by decide⟩ (by omega) (by omega) (by omega) (fun r6 g6 e6 v6 => ?_)⟩
    refine tail (x5.tr e6) v6 ?_ (floor_neg h4 hM) (by omega) (by omega)
    refine Nat.le_trans (ln_mono ?_) (Nat.le_trans lS (by omega))
    omega
end
