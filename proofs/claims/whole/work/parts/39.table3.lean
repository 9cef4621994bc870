/-! ===== the class's tables: turned, plus, minus, over, shortened (own work) ===== -/
section
variable {G : Nat → Prop}
def tz (z : Nat → Int) (r c : Nat) (k : Nat) : Int := z (k % r * c + k / r)
theorem dm {i j r : Nat} (hi : i < r) : (j * r + i) % r = i ∧ (j * r + i) / r = j := by
  have hp : 0 < r := by omega
  rw [Nat.mul_comm j r, Nat.mul_add_div hp, Nat.div_eq_of_lt hi, Nat.add_zero, Nat.mul_add_mod, Nat.mod_eq_of_lt hi]
  exact ⟨rfl, rfl⟩
theorem st_turned_21 {post : Nat → xH → Prop} {K : xH → Nat → Nat → Nat → Nat → Int32 → Prop} {h0 : xH} {t q1 r c D i q kc ks : Nat} {z : Nat → Int} (T : Tb G h0 t q1 r c z D) (hq : h0 q = none) (hi : i < r) (hc : c ≤ 2) (hr : r ≤ 2)
    (k : ∀ h, Ext h0 h → Ar G h q (c * r) (fun x => x % r < i + 1 ∧ x < c * r) (tz z r c) → K h kc ks t q (nI i)) :
    ∀ (m j : Nat) (h : xH), j + m = c → Ext h0 h → Ar G h q (c * r) (fun x => (x % r < i ∨ (x % r = i ∧ x / r < j)) ∧ x < c * r) (tz z r c) → wl_X4_turned_21 post K (m + 1) h kc ks t q (nI i) (nI j) := by
  intro m
  induction m with
  | zero =>
    intro j h hjm he hA
    rw [wl_X4_turned_21]
    obtain ⟨a, b, ta, -⟩ := T.ext he
    obtain rfl : j = c := by omega
    refine ⟨_, ta, _, rfl, fun _ => k h he (hA.imp (fun x hx => ⟨?_, hx.2⟩)), fun hc => absurd (nI_le (Nat.le_refl _) (by omega)) hc⟩
    have : x / r < j := (Nat.div_lt_iff_lt_mul (by omega)).mpr hx.2
    omega
  | succ m ih =>
    intro j h hjm he hA
    rw [wl_X4_turned_21]
    obtain ⟨a, b, ta, ⟨f, fa, fb⟩, -⟩ := T.ext he
    have hj : j < c := by omega
    have i1 := ix hi hj
    have i2 := ix hj hi
    have ib1 := ixb hr hc
    have ib2 := ixb hc hr
    obtain ⟨w, g, v⟩ := fb _ i1
    obtain ⟨dm1, dm2⟩ := dm (j := j) hi
    refine ⟨_, ta, _, rfl, fun hc => absurd hc (nI_ge (by omega) (by omega)), fun _ => ⟨_, rfl, _, rfl, _, _, fa, ?_⟩⟩
    rw [nI_mulN, nI_add, nI_clamp (by omega)]
    refine ⟨vp_in_nI i1 (by omega), w, g, ?_⟩
    rw [nI_mulN, nI_add]
    have v' : Wh G h w (tz z r c (j * r + i)) := by
      unfold tz
      rw [dm1, dm2]
      exact v
    refine hA.st (k := j * r + i) v' i2 (by omega) (fun h2 c2' k2 hA2 x4 ex4 => ?_)
    rw [nI_1] at ex4
    rw [ex4]
    refine ih (j + 1) h2 (by omega) (he.but hq c2') (hA2.imp (fun x hx => ?_))
    by_cases hxk : x = j * r + i
    · exact Or.inr hxk
    · refine Or.inl ⟨?_, hx.2⟩
      rcases hx.1 with w | w
      · exact Or.inl w
      · refine Or.inr ⟨w.1, ?_⟩
        have := Nat.div_add_mod x r
        rcases Nat.lt_or_ge (x / r) j with w2 | w2
        · exact w2
        · have : x / r = j := by omega
          exfalso
          apply hxk
          rw [← this, ← w.1, Nat.mul_comm]
          omega
theorem st_turned_11 {post : Nat → xH → Prop} {K : xH → Nat → Nat → Nat → Nat → Prop} {h0 : xH} {t q1 r c D q kc ks : Nat} {z : Nat → Int} (T : Tb G h0 t q1 r c z D) (hq : h0 q = none) (hc : c ≤ 2) (hr : r ≤ 2)
    (k : ∀ h, Ext h0 h → Ar G h q (c * r) (fun x => x < c * r) (tz z r c) → K h kc ks t q) :
    ∀ (m i : Nat) (h : xH), i + m = r → Ext h0 h → Ar G h q (c * r) (fun x => x % r < i ∧ x < c * r) (tz z r c) → wl_X4_turned_11 post K (m + 1) h kc ks t q (nI i) := by
  intro m
  induction m with
  | zero =>
    intro i h him he hA
    rw [wl_X4_turned_11]
    obtain ⟨a, b, ta, -⟩ := T.ext he
    obtain rfl : i = r := by omega
    refine ⟨_, ta, _, rfl, fun _ => k h he (hA.imp (fun x hx => ⟨?_, hx⟩)), fun hc => absurd (nI_le (Nat.le_refl _) (by omega)) hc⟩
    refine Nat.mod_lt _ (Nat.pos_of_ne_zero (fun w => ?_))
    rw [w] at hx
    omega
  | succ m ih =>
    intro i h him he hA
    rw [wl_X4_turned_11]
    obtain ⟨a, b, ta, -⟩ := T.ext he
    refine ⟨_, ta, _, rfl, fun hc => absurd hc (nI_ge (by omega) (by omega)), fun _ => ⟨c + 1, st_turned_21 T hq (by omega) hc hr (fun h' he' hA' x3 ex3 => ?_) c 0 h (by omega) he (hA.imp (fun x hx => ⟨hx.1.elim id (fun w => absurd w.2 (Nat.not_lt_zero _)), hx.2⟩))⟩⟩
    rw [nI_1] at ex3
    rw [ex3]
    exact ih (i + 1) h' (by omega) he' hA'
theorem st_turned {h0 : xH} {t q1 r c D mc ms : Nat} {z : Nat → Int} {post : Nat → xH → Prop} (T : Tb G h0 t q1 r c z D) (hc : c ≤ 2) (hr : r ≤ 2) (hmc : 3 ≤ mc) (hms : 13 ≤ ms)
    (k : ∀ t' h' q, Ext h0 h' → h0 t' = none → Tb G h' t' q c r (tz z r c) D → h0 q = none → h' q = some (.inl (3, c * r, .inr (.inr (.inr (.inr (fun _ => none)))))) → post t' h') : wp_X4_turned h0 mc ms t post := by
  have T' := T
  obtain ⟨a, b, ta, ⟨f, fa, -⟩, -⟩ := T'
  have ib1 := ixb hr hc
  have hcr : c * r = r * c := Nat.mul_comm _ _
  refine ⟨_, ta, _, rfl, _, _, fa, nI_pos (by omega), fun u' eu => ?_⟩
  rw [nI_clamp (by omega)] at eu
  subst eu
  refine ⟨by omega, by omega, by omega, fun q hq h1 e1 => ?_⟩
  have x1 : Ext h0 h1 := by rw [e1]; exact Ext.new hq
  have n1 := fresh_none hq
  refine ⟨r + 1, st_turned_11 T n1 hc hr (fun h2 x2 hA => ?_) r 0 h1 (by omega) x1 ⟨fun _ => none, by rw [e1, hcr]; exact x_up_s, fun i hi => absurd hi.1 (Nat.not_lt_zero _)⟩⟩
  refine ⟨by omega, by omega, fun q3 hq3 h3 e3 => ?_⟩
  have x3 : Ext h2 h3 := by rw [e3]; exact Ext.new hq3
  obtain ⟨a3, b3, t1b, -, w1⟩ := T.ext (x2.tr x3)
  refine ⟨_, t1b, _, rfl, _, rfl, _, rfl, 1, c * r, by omega, by omega, ?_⟩
  exact st_init (x2.tr x3) (x2.none (fresh_none hq3)) (by rw [e3]; exact x_up_s) (hA.ext x3) w1 (by omega) (Nat.le_refl _) (Nat.le_refl _) (fun h' q' e' t' hq' a' => k q3 h' q' e' (x2.none (fresh_none hq3)) t' hq' a')
/-- the numbers of a sum -/
def pz (z1 z2 : Nat → Int) (w1 w2 : Nat) (k : Nat) : Int := z1 k * w1 + z2 k * w2
theorem st_plus_44 {post : Nat → xH → Prop} {K : xH → Nat → Nat → Nat → Nat → Nat → Prop} {h0 : xH} {t1 q1 r c D1 t2 q2 D2 x3 x4 w1 w2 b1 b2 u q kc0 ks0 : Nat} {z1 z2 : Nat → Int} (T1 : Tb G h0 t1 q1 r c z1 D1) (T2 : Tb G h0 t2 q2 r c z2 D2) (V3 : Wh G h0 x3 (w1 : Int)) (V4 : Wh G h0 x4 (w2 : Int)) (hq : h0 q = none) (hn : r * c ≤ 4) (B1 : ∀ i, i < r * c → (z1 i).natAbs < 2 ^ b1) (B2 : ∀ i, i < r * c → (z2 i).natAbs < 2 ^ b2) (hw1 : w1 < 2 ^ b2) (hw2 : w2 < 2 ^ b1) (hu : (b1 + b2) / 16 + 10 ≤ u) (hub : b1 + b2 ≤ 100000) (hG : ∀ q, h0 q = none → G q)
    (k : ∀ h kc ks, kc0 ≤ kc → ks0 ≤ ks → Ext h0 h → Ar G h q (r * c) (fun x => x < r * c) (pz z1 z2 w1 w2) → K h kc ks t1 x3 q) :
    ∀ (m i : Nat) (h : xH) (kc ks : Nat), i + m = r * c → kc0 + 6 * m ≤ kc → ks0 + m * (3 * u) ≤ ks → Ext h0 h → Ar G h q (r * c) (fun x => x < i) (pz z1 z2 w1 w2) → wl_X4_plus_44 post K (m + 1) h kc ks t1 t2 x3 x4 q (nI i) := by
  intro m
  induction m with
  | zero =>
    intro i h kc ks him hkc hks he hA
    rw [wl_X4_plus_44]
    obtain ⟨a, b, ta, ⟨f, fa, fb⟩, -⟩ := T1.ext he
    subst him
    exact ⟨_, ta, _, rfl, _, _, fa, fun _ => k h kc ks (by omega) (by omega) he hA, fun hc => absurd (nI_le (Nat.le_refl _) (by omega)) hc⟩
  | succ m ih =>
    intro i h kc ks him hkc hks he hA
    rw [wl_X4_plus_44]
    obtain ⟨a, b, ta, ⟨f, fa, fb⟩, -⟩ := T1.ext he
    have i1 : i < r * c := by omega
    obtain ⟨y1, g1, v1⟩ := fb _ i1
    have bb1 := B1 _ i1
    have bb2 := B2 _ i1
    have hw1' : ((w1 : Int)).natAbs < 2 ^ b2 := hw1
    have hw2' : ((w2 : Int)).natAbs < 2 ^ b1 := hw2
    have l1 := ln_bits bb1
    have l2 := ln_bits bb2
    have l3 := ln_bits hw1'
    have l4 := ln_bits hw2'
    rw [Nat.add_mul, Nat.one_mul] at hks
    obtain ⟨fs, hfs⟩ := v1.ob
    refine ⟨_, ta, _, rfl, _, _, fa, fun hc => absurd hc (nI_ge (by omega) (by omega)), fun _ => ⟨vp_in_nI i1 (by omega), y1, by rw [nI_clamp (by omega)]; exact g1, fs, hfs, 2, u, by omega, by omega, sw_times v1 (V3.ext he) (fun q hq => hG q (he.none hq)) (by omega) (by omega) (by omega) (fun r5 h5 e5 v5 => ?_)⟩⟩
    obtain ⟨a', b', ta', ⟨f', fa', fb'⟩, -⟩ := T2.ext (he.tr e5)
    obtain ⟨y2, g2, v2⟩ := fb' _ i1
    obtain ⟨fs2, hfs2⟩ := v2.ob
    refine ⟨_, ta', _, rfl, _, _, fa', vp_in_nI i1 (by omega), y2, by rw [nI_clamp (by omega)]; exact g2, fs2, hfs2, 2, u, by omega, by omega, sw_times v2 (V4.ext (he.tr e5)) (fun q hq => hG q ((he.tr e5).none hq)) (by omega) (by omega) (by omega) (fun r6 h6 e6 v6 => ?_)⟩
    obtain ⟨fs3, hfs3⟩ := (v5.ext e6).ob
    have m5 := ln_bits (mul_bits bb1 hw1')
    have m6 := ln_bits (mul_bits bb2 hw2')
    rw [Nat.add_comm b2 b1] at m6
    refine ⟨fs3, hfs3, 2, u, by omega, by omega, sw_plus (N := (b1 + b2) / 16 + 1) (v5.ext e6) v6 (fun q hq => hG q (((he.tr e5).tr e6).none hq)) ⟨m5, m6⟩ (by omega) (by omega) (by omega) (fun r7 h7 e7 v7 => ?_)⟩
    refine (((hA.ext e5).ext e6).ext e7).st (k := i) v7 i1 (by omega) (fun h8 c8 k8 hA8 x9 ex9 => ?_)
    rw [nI_1] at ex9
    rw [ex9]
    exact ih (i + 1) h8 _ _ (by omega) (by omega) (by omega) ((((he.tr e5).tr e6).tr e7).but hq c8) (hA8.imp (fun x hx => by omega))
theorem st_plus {h0 : xH} {t1 q1 r c D1 t2 q2 D2 b1 b2 u mc ms : Nat} {z1 z2 : Nat → Int} {post : Nat → xH → Prop} (T1 : Tb G h0 t1 q1 r c z1 D1) (T2 : Tb G h0 t2 q2 r c z2 D2) (hn : r * c ≤ 4) (B1 : ∀ i, i < r * c → (z1 i).natAbs < 2 ^ b1) (B2 : ∀ i, i < r * c → (z2 i).natAbs < 2 ^ b2) (hD1 : D1 < 2 ^ b1) (hD2 : D2 < 2 ^ b2) (hu : (b1 + b2) / 16 + 10 ≤ u) (hub : b1 + b2 ≤ 100000) (hG : ∀ q, h0 q = none → G q) (hmc : 47 ≤ mc) (hms : 19 * u + 13 ≤ ms)
    (k : ∀ t h' q, Ext h0 h' → h0 t = none → Tb G h' t q r c (pz z1 z2 (D2 / Nat.gcd D1 D2) (D1 / Nat.gcd D1 D2)) (D1 * (D2 / Nat.gcd D1 D2)) → h0 q = none → h' q = some (.inl (3, r * c, .inr (.inr (.inr (.inr (fun _ => none)))))) → post t h') : wp_X4_plus h0 mc ms t1 t2 post := by
  have T1' := T1
  have T2' := T2
  obtain ⟨a, b, ta, -, V1⟩ := T1'
  obtain ⟨a', b', ta', -, V2⟩ := T2'
  have l1 := ln_bits (show ((D1 : Int)).natAbs < 2 ^ b1 from hD1)
  have l2 := ln_bits (show ((D2 : Int)).natAbs < 2 ^ b2 from hD2)
  refine ⟨_, ta, _, rfl, _, ta', _, rfl, 6, 2 * u, by omega, by omega, sw_commonDivisor V1 V2 hG (by omega) (by omega) (fun g h1 e1 v1 => ?_)⟩
  have T2'' := T2.ext e1
  obtain ⟨a2, b2', ta2, -, V2'⟩ := T2''
  obtain ⟨fs, hfs⟩ := V2'.ob
  refine ⟨_, ta2, _, rfl, fs, hfs, 6, 2 * u, by omega, by omega, sw_dividedBy V2' v1 (fun q hq => hG q (e1.none hq)) (by omega) (by omega) (fun w1 h2 e2 v2 => ?_)⟩
  obtain ⟨a3, b3, ta3, -, V3⟩ := T1.ext (e1.tr e2)
  obtain ⟨fs3, hfs3⟩ := V3.ob
  refine ⟨_, ta3, _, rfl, fs3, hfs3, 6, 2 * u, by omega, by omega, sw_dividedBy V3 (v1.ext e2) (fun q hq => hG q ((e1.tr e2).none hq)) (by omega) (by omega) (fun w2 h3 e3 v3 => ?_)⟩
  have x03 := (e1.tr e2).tr e3
  obtain ⟨a4, b4, ta4, ⟨f4, fa4, -⟩, -⟩ := T1.ext x03
  rw [Int.natAbs_natCast, Int.natAbs_natCast, ← Int.ofNat_tdiv] at v2 v3
  refine ⟨_, ta4, _, rfl, _, _, fa4, nI_pos (by omega), fun u' eu => ?_⟩
  rw [nI_clamp (by omega)] at eu
  subst eu
  refine ⟨by omega, by omega, by omega, fun q hq h4 e4 => ?_⟩
  have x4 : Ext h3 h4 := by rw [e4]; exact Ext.new hq
  have n4 := fresh_none hq
  have hw1 : D2 / Nat.gcd D1 D2 < 2 ^ b2 := Nat.lt_of_le_of_lt (Nat.div_le_self _ _) hD2
  have hw2 : D1 / Nat.gcd D1 D2 < 2 ^ b1 := Nat.lt_of_le_of_lt (Nat.div_le_self _ _) hD1
  have hru : r * c * (3 * u) ≤ 4 * (3 * u) := Nat.mul_le_mul_right _ hn
  refine ⟨r * c + 1, st_plus_44 (kc0 := 4) (ks0 := u + 9) (T1.ext x03) (T2.ext x03) (v2.ext e3) v3 n4 hn B1 B2 hw1 hw2 hu hub (fun q hq => hG q (x03.none hq)) (fun h5 kc ks hk1 hk2 x5 hA => ?_) (r * c) 0 h4 _ _ (by omega) (by omega) (by omega) x4 ⟨_, by rw [e4]; exact x_up_s, fun i hi => by omega⟩⟩
  refine ⟨by omega, by omega, fun q6 hq6 h6 e6 => ?_⟩
  have x6 : Ext h5 h6 := by rw [e6]; exact Ext.new hq6
  have x06 := (x03.tr x5).tr x6
  obtain ⟨a7, b7, ta7, -, V7⟩ := T1.ext x06
  obtain ⟨fs7, hfs7⟩ := V7.ob
  have l3 := ln_bits (show (((D2 / Nat.gcd D1 D2 : Nat) : Int)).natAbs < 2 ^ b2 from hw1)
  refine ⟨_, ta7, _, rfl, _, rfl, _, rfl, fs7, hfs7, 2, u, by omega, by omega, sw_times V7 (((v2.ext e3).ext x5).ext x6) (fun q hq => hG q (x06.none hq)) (by omega) (by omega) (by omega) (fun w8 h8 e8 v8 => ⟨1, r * c, by omega, by omega, ?_⟩)⟩
  exact st_init (x06.tr e8) ((x03.tr x5).none (fresh_none hq6)) (e8 _ _ (by rw [e6]; exact x_up_s)) ((hA.ext x6).ext e8) (v8.to (Int.natCast_mul _ _).symm) (by omega) (Nat.le_refl _) (Nat.le_refl _) (fun h' q' e' t' hq' a' => k q6 h' q' e' ((x03.tr x5).none (fresh_none hq6)) t' hq' a')
theorem st_minus_11 {post : Nat → xH → Prop} {K : xH → Nat → Nat → Nat → Nat → Nat → Prop} {h0 : xH} {t1 t2 q2 r c D2 q kc0 ks0 : Nat} {z2 : Nat → Int} (T2 : Tb G h0 t2 q2 r c z2 D2) (hq : h0 q = none) (hn : r * c ≤ 4)
    (k : ∀ h kc ks, kc0 ≤ kc → ks0 ≤ ks → Ext h0 h → Ar G h q (r * c) (fun x => x < r * c) (fun i => -(z2 i)) → K h kc ks t1 t2 q) :
    ∀ (m i : Nat) (h : xH) (kc ks : Nat), i + m = r * c → kc0 + m ≤ kc → ks0 + 3 * m ≤ ks → Ext h0 h → Ar G h q (r * c) (fun x => x < i) (fun i => -(z2 i)) → wl_X4_minus_11 post K (m + 1) h kc ks t1 t2 q (nI i) := by
  intro m
  induction m with
  | zero =>
    intro i h kc ks him hkc hks he hA
    rw [wl_X4_minus_11]
    have hA' := hA
    obtain ⟨f, fa, -⟩ := hA'
    obtain rfl : i = r * c := by omega
    exact ⟨_, _, fa, fun _ => k h kc ks (by omega) (by omega) he hA, fun hc => absurd (nI_le (Nat.le_refl _) (by omega)) hc⟩
  | succ m ih =>
    intro i h kc ks him hkc hks he hA
    rw [wl_X4_minus_11]
    have hA' := hA
    obtain ⟨f, fa, -⟩ := hA'
    obtain ⟨a', b', ta', ⟨f', fa', fb'⟩, -⟩ := T2.ext he
    have i1 : i < r * c := by omega
    obtain ⟨y2, g2, v2⟩ := fb' _ i1
    obtain ⟨fs2, hfs2⟩ := v2.ob
    refine ⟨_, _, fa, fun hc => absurd hc (nI_ge (by omega) (by omega)), fun _ => ⟨_, ta', _, rfl, _, _, fa', vp_in_nI i1 (by omega), y2, by rw [nI_clamp (by omega)]; exact g2, fs2, hfs2, 1, 3, by omega, by omega, sw_negative v2 (by omega) (by omega) (fun r5 h5 e5 v5 => ?_)⟩⟩
    refine (hA.ext e5).st (k := i) v5 i1 (by omega) (fun h8 c8 k8 hA8 x9 ex9 => ?_)
    rw [nI_1] at ex9
    rw [ex9]
    exact ih (i + 1) h8 _ _ (by omega) (by omega) (by omega) ((he.tr e5).but hq c8) (hA8.imp (fun x hx => by omega))
theorem st_minus {h0 : xH} {t1 q1 r c D1 t2 q2 D2 b1 b2 u mc ms : Nat} {z1 z2 : Nat → Int} {post : Nat → xH → Prop} (T1 : Tb G h0 t1 q1 r c z1 D1) (T2 : Tb G h0 t2 q2 r c z2 D2) (hn : r * c ≤ 4) (B1 : ∀ i, i < r * c → (z1 i).natAbs < 2 ^ b1) (B2 : ∀ i, i < r * c → (z2 i).natAbs < 2 ^ b2) (hD1 : D1 < 2 ^ b1) (hD2 : D2 < 2 ^ b2) (hu : (b1 + b2) / 16 + 10 ≤ u) (hub : b1 + b2 ≤ 100000) (hG : ∀ q, h0 q = none → G q) (hmc : 54 ≤ mc) (hms : 19 * u + 38 ≤ ms)
    (k : ∀ t h' q, Ext h0 h' → h0 t = none → Tb G h' t q r c (pz z1 (fun i => -(z2 i)) (D2 / Nat.gcd D1 D2) (D1 / Nat.gcd D1 D2)) (D1 * (D2 / Nat.gcd D1 D2)) → h0 q = none → h' q = some (.inl (3, r * c, .inr (.inr (.inr (.inr (fun _ => none)))))) → post t h') : wp_X4_minus h0 mc ms t1 t2 post := by
  have T2' := T2
  obtain ⟨a', b', ta', ⟨f', fa', -⟩, V2⟩ := T2'
  refine ⟨_, ta', _, rfl, _, _, fa', nI_pos (by omega), fun u' eu => ?_⟩
  rw [nI_clamp (by omega)] at eu
  subst eu
  refine ⟨by omega, by omega, by omega, fun q hq h1 e1 => ?_⟩
  have x1 : Ext h0 h1 := by rw [e1]; exact Ext.new hq
  have n1 := fresh_none hq
  refine ⟨r * c + 1, st_minus_11 (kc0 := 49) (ks0 := 19 * u + 22) T2 n1 hn (fun h2 kc ks hk1 hk2 x2 hA => ?_) (r * c) 0 h1 _ _ (by omega) (by omega) (by omega) x1 ⟨_, by rw [e1]; exact x_up_s, fun i hi => by omega⟩⟩
  refine ⟨by omega, by omega, fun q3 hq3 h3 e3 => ?_⟩
  have x3 : Ext h2 h3 := by rw [e3]; exact Ext.new hq3
  have x03 := x2.tr x3
  obtain ⟨a4, b4, ta4, -⟩ := T1.ext x03
  obtain ⟨a5, b5, ta5, -, V5⟩ := T2.ext x03
  refine ⟨_, ta4, _, rfl, _, rfl, _, ta5, _, rfl, 1, r * c, by omega, by omega, ?_⟩
  refine st_init (h0 := h0) x03 (x2.none (fresh_none hq3)) (by rw [e3]; exact x_up_s) (hA.ext x3) V5 (by omega) (Nat.le_refl _) (Nat.le_refl _) (fun h6 q6 e6 t6 hq6 a6 => ?_)
  have T1'' := T1.ext e6
  have T1e := T1''
  obtain ⟨a7, b7, ta7, -⟩ := T1e
  refine ⟨_, ta7, 47, 19 * u + 13, by omega, by omega, st_plus T1'' t6 hn B1 (fun i hi => by rw [Int.natAbs_neg]; exact B2 i hi) hD1 hD2 hu hub (fun q hq => hG q (e6.none hq)) (Nat.le_refl _) (Nat.le_refl _) (fun t8 h8 q8 e8 n8 T8 nq8 a8 => k t8 h8 q8 (e6.tr e8) (e6.none n8) T8 (e6.none nq8) a8)⟩
theorem st_over_34 {post : Nat → xH → Prop} {K : xH → Nat → Nat → Nat → Nat → Nat → Nat → Prop} {h0 : xH} {t1 q1 r c D1 x1 x2 x3 w1 b1 b2 u q kc0 ks0 : Nat} {z1 : Nat → Int} (T1 : Tb G h0 t1 q1 r c z1 D1) (V3 : Wh G h0 x3 (w1 : Int)) (hq : h0 q = none) (hn : r * c ≤ 4) (B1 : ∀ i, i < r * c → (z1 i).natAbs < 2 ^ b1) (hw1 : w1 < 2 ^ b2) (hu : (b1 + b2) / 16 + 10 ≤ u) (hub : b1 + b2 ≤ 100000) (hG : ∀ q, h0 q = none → G q)
    (k : ∀ h kc ks, kc0 ≤ kc → ks0 ≤ ks → Ext h0 h → Ar G h q (r * c) (fun x => x < r * c) (fun i => z1 i * w1) → K h kc ks t1 x1 x2 q) :
    ∀ (m i : Nat) (h : xH) (kc ks : Nat), i + m = r * c → kc0 + 2 * m ≤ kc → ks0 + m * u ≤ ks → Ext h0 h → Ar G h q (r * c) (fun x => x < i) (fun i => z1 i * w1) → wl_X4_over_34 post K (m + 1) h kc ks t1 x1 x2 x3 q (nI i) := by
  intro m
  induction m with
  | zero =>
    intro i h kc ks him hkc hks he hA
    rw [wl_X4_over_34]
    obtain ⟨a, b, ta, ⟨f, fa, fb⟩, -⟩ := T1.ext he
    subst him
    exact ⟨_, ta, _, rfl, _, _, fa, fun _ => k h kc ks (by omega) (by omega) he hA, fun hc => absurd (nI_le (Nat.le_refl _) (by omega)) hc⟩
  | succ m ih =>
    intro i h kc ks him hkc hks he hA
    rw [wl_X4_over_34]
    obtain ⟨a, b, ta, ⟨f, fa, fb⟩, -⟩ := T1.ext he
    have i1 : i < r * c := by omega
    obtain ⟨y1, g1, v1⟩ := fb _ i1
    have bb1 := B1 _ i1
    have hw1' : ((w1 : Int)).natAbs < 2 ^ b2 := hw1
    have l1 := ln_bits bb1
    have l3 := ln_bits hw1'
    rw [Nat.add_mul, Nat.one_mul] at hks
    obtain ⟨fs, hfs⟩ := v1.ob
    refine ⟨_, ta, _, rfl, _, _, fa, fun hc => absurd hc (nI_ge (by omega) (by omega)), fun _ => ⟨vp_in_nI i1 (by omega), y1, by rw [nI_clamp (by omega)]; exact g1, fs, hfs, 2, u, by omega, by omega, sw_times v1 (V3.ext he) (fun q hq => hG q (he.none hq)) (by omega) (by omega) (by omega) (fun r5 h5 e5 v5 => ?_)⟩⟩
    refine (hA.ext e5).st (k := i) v5 i1 (by omega) (fun h8 c8 k8 hA8 x9 ex9 => ?_)
    rw [nI_1] at ex9
    rw [ex9]
    exact ih (i + 1) h8 _ _ (by omega) (by omega) (by omega) ((he.tr e5).but hq c8) (hA8.imp (fun x hx => by omega))
theorem st_over {h0 : xH} {t1 q1 r c D1 t2 q2 D2 b1 b2 u mc ms : Nat} {z1 z2 : Nat → Int} {post : Nat → xH → Prop} (T1 : Tb G h0 t1 q1 r c z1 D1) (T2 : Tb G h0 t2 q2 1 1 z2 D2) (hn : r * c ≤ 4) (B1 : ∀ i, i < r * c → (z1 i).natAbs < 2 ^ b1) (B2 : (z2 0).natAbs < 2 ^ b2) (hz : 0 < z2 0) (hD1 : D1 < 2 ^ b1) (hD2 : D2 < 2 ^ b2) (hu : (b1 + b2) / 16 + 10 ≤ u) (hub : b1 + b2 ≤ 100000) (hG : ∀ q, h0 q = none → G q) (hmc : 31 ≤ mc) (hms : 11 * u + 13 ≤ ms)
    (k : ∀ t h' q, Ext h0 h' → h0 t = none → Tb G h' t q r c (fun i => z1 i * (D2 / Nat.gcd D1 D2 : Nat)) (D1 / Nat.gcd D1 D2 * (z2 0).natAbs) → h0 q = none → h' q = some (.inl (3, r * c, .inr (.inr (.inr (.inr (fun _ => none)))))) → post t h') : wp_X4_over h0 mc ms t1 t2 post := by
  have T1' := T1
  have T2' := T2
  obtain ⟨a, b, ta, -, V1⟩ := T1'
  obtain ⟨a', b', ta', -, V2⟩ := T2'
  have l1 := ln_bits (show ((D1 : Int)).natAbs < 2 ^ b1 from hD1)
  have l2 := ln_bits (show ((D2 : Int)).natAbs < 2 ^ b2 from hD2)
  have l3 := ln_bits B2
  refine ⟨_, ta, _, rfl, _, ta', _, rfl, 6, 2 * u, by omega, by omega, sw_commonDivisor V1 V2 hG (by omega) (by omega) (fun g h1 e1 v1 => ?_)⟩
  obtain ⟨a2, b2', ta2, -, V2'⟩ := T2.ext e1
  obtain ⟨fs, hfs⟩ := V2'.ob
  refine ⟨_, ta2, _, rfl, fs, hfs, 6, 2 * u, by omega, by omega, sw_dividedBy V2' v1 (fun q hq => hG q (e1.none hq)) (by omega) (by omega) (fun w1 h2 e2 v2 => ?_)⟩
  have x02 := e1.tr e2
  obtain ⟨a4, b4, ta4, ⟨f4, fa4, -⟩, -⟩ := T1.ext x02
  rw [Int.natAbs_natCast, Int.natAbs_natCast] at v1
  rw [Int.natAbs_natCast, Int.natAbs_natCast, ← Int.ofNat_tdiv] at v2
  refine ⟨_, ta4, _, rfl, _, _, fa4, nI_pos (by omega), fun u' eu => ?_⟩
  rw [nI_clamp (by omega)] at eu
  subst eu
  refine ⟨by omega, by omega, by omega, fun q hq h4 e4 => ?_⟩
  have x4 : Ext h2 h4 := by rw [e4]; exact Ext.new hq
  have n4 := fresh_none hq
  have hw1 : D2 / Nat.gcd D1 D2 < 2 ^ b2 := Nat.lt_of_le_of_lt (Nat.div_le_self _ _) hD2
  have hw2 : D1 / Nat.gcd D1 D2 < 2 ^ b1 := Nat.lt_of_le_of_lt (Nat.div_le_self _ _) hD1
  have hru : r * c * u ≤ 4 * u := Nat.mul_le_mul_right _ hn
  refine ⟨r * c + 1, st_over_34 (kc0 := 10) (ks0 := 3 * u + 9) (T1.ext x02) v2 n4 hn B1 hw1 hu hub (fun q hq => hG q (x02.none hq)) (fun h5 kc ks hk1 hk2 x5 hA => ?_) (r * c) 0 h4 _ _ (by omega) (by omega) (by omega) x4 ⟨_, by rw [e4]; exact x_up_s, fun i hi => by omega⟩⟩
  have x05 := x02.tr x5
  obtain ⟨a7, b7, ta7, -, V7⟩ := T1.ext x05
  obtain ⟨fs7, hfs7⟩ := V7.ob
  refine ⟨_, ta7, _, rfl, fs7, hfs7, 6, 2 * u, by omega, by omega, sw_dividedBy V7 ((v1.ext e2).ext x5) (fun q hq => hG q (x05.none hq)) (by omega) (by omega) (fun w8 h8 e8 v8 => ?_)⟩
  rw [← Int.ofNat_tdiv] at v8
  have x08 := x05.tr e8
  obtain ⟨a9, b9, ta9, ⟨f9, fa9, fb9⟩, -⟩ := T2.ext x08
  obtain ⟨y9, g9, v9⟩ := fb9 0 (by decide)
  obtain ⟨fs9, hfs9⟩ := v8.ob
  have l4 := ln_bits (show (((D1 / Nat.gcd D1 D2 : Nat) : Int)).natAbs < 2 ^ b1 from hw2)
  refine ⟨_, ta9, _, rfl, _, _, fa9, vp_in_nI (n := 0) (by decide) (by decide), y9, g9, fs9, hfs9, 2, u, by omega, by omega, sw_times v8 v9 (fun q hq => hG q (x08.none hq)) (by omega) (by omega) (by omega) (fun w10 h10 e10 v10 => ?_)⟩
  have x010 := x08.tr e10
  refine ⟨by omega, by omega, fun q11 hq11 h11 e11 => ?_⟩
  have x11 : Ext h10 h11 := by rw [e11]; exact Ext.new hq11
  obtain ⟨a12, b12, ta12, -⟩ := T1.ext (x010.tr x11)
  refine ⟨_, ta12, _, rfl, _, rfl, 1, r * c, by omega, by omega, ?_⟩
  exact st_init (x010.tr x11) (x010.none (fresh_none hq11)) (by rw [e11]; exact x_up_s) (((hA.ext e8).ext e10).ext x11) ((v10.ext x11).to (by rw [Int.natCast_mul, show (((z2 0).natAbs : Nat) : Int) = z2 0 by omega])) (by omega) (Nat.le_refl _) (Nat.le_refl _) (fun h' q' e' t' hq' a' => k q11 h' q' e' (x010.none (fresh_none hq11)) t' hq' a')
/-- the common divisor of a table's numbers -/
def gf (D : Nat) (z : Nat → Int) : Nat → Nat
  | 0 => D
  | n + 1 => Nat.gcd (gf D z n) (z n).natAbs
theorem gf_le {D : Nat} {z : Nat → Int} (hD : 0 < D) : ∀ n, 0 < gf D z n ∧ gf D z n ≤ D := by
  intro n
  induction n with
  | zero => exact ⟨hD, Nat.le_refl _⟩
  | succ n ih => exact ⟨Nat.gcd_pos_of_pos_left _ ih.1, Nat.le_trans (Nat.gcd_le_left _ ih.1) ih.2⟩
theorem st_short_7 {post : Nat → xH → Prop} {K : xH → Nat → Nat → Nat → Nat → Prop} {h0 : xH} {t1 q1 r c D b u kc0 ks0 : Nat} {z : Nat → Int} (T1 : Tb G h0 t1 q1 r c z D) (hn : r * c ≤ 4) (B1 : ∀ i, i < r * c → (z i).natAbs < 2 ^ b) (hD0 : 0 < D) (hD : D < 2 ^ b) (hu : b / 16 + 10 ≤ u) (hub : b ≤ 100000) (hG : ∀ q, h0 q = none → G q)
    (k : ∀ h kc ks w, kc0 ≤ kc → ks0 ≤ ks → Ext h0 h → Wh G h w (gf D z (r * c) : Nat) → K h kc ks t1 w) :
    ∀ (m i : Nat) (h : xH) (kc ks w : Nat), i + m = r * c → kc0 + 6 * m ≤ kc → ks0 + m * (2 * u) ≤ ks → Ext h0 h → Wh G h w (gf D z i : Nat) → wl_X4_shortened_7 post K (m + 1) h kc ks t1 w (nI i) := by
  intro m
  induction m with
  | zero =>
    intro i h kc ks w him hkc hks he hw
    rw [wl_X4_shortened_7]
    obtain ⟨a, b, ta, ⟨f, fa, fb⟩, -⟩ := T1.ext he
    obtain rfl : i = r * c := by omega
    exact ⟨_, ta, _, rfl, _, _, fa, fun _ => k h kc ks w (by omega) (by omega) he hw, fun hc => absurd (nI_le (Nat.le_refl _) (by omega)) hc⟩
  | succ m ih =>
    intro i h kc ks w him hkc hks he hw
    rw [wl_X4_shortened_7]
    obtain ⟨a, b', ta, ⟨f, fa, fb⟩, -⟩ := T1.ext he
    have i1 : i < r * c := by omega
    obtain ⟨y1, g1, v1⟩ := fb _ i1
    have l1 := ln_bits (B1 _ i1)
    have l3 := ln_bits (show ((gf D z i : Int)).natAbs < 2 ^ b from Nat.lt_of_le_of_lt (gf_le hD0 i).2 hD)
    rw [Nat.add_mul, Nat.one_mul] at hks
    refine ⟨_, ta, _, rfl, _, _, fa, fun hc => absurd hc (nI_ge (by omega) (by omega)), fun _ => ⟨vp_in_nI i1 (by omega), y1, by rw [nI_clamp (by omega)]; exact g1, 6, 2 * u, by omega, by omega, sw_commonDivisor hw v1 (fun q hq => hG q (he.none hq)) (by omega) (by omega) (fun r5 h5 e5 v5 x9 ex9 => ?_)⟩⟩
    rw [nI_1] at ex9
    rw [ex9]
    exact ih (i + 1) h5 _ _ r5 (by omega) (by omega) (by omega) (he.tr e5) v5
theorem st_short_44 {post : Nat → xH → Prop} {K : xH → Nat → Nat → Nat → Nat → Nat → Prop} {h0 : xH} {t1 q1 r c D w g b u q kc0 ks0 : Nat} {z : Nat → Int} (T1 : Tb G h0 t1 q1 r c z D) (V3 : Wh G h0 w (g : Int)) (hq : h0 q = none) (hn : r * c ≤ 4) (B1 : ∀ i, i < r * c → (z i).natAbs < 2 ^ b) (hu : b / 16 + 10 ≤ u) (hub : b ≤ 100000) (hG : ∀ q, h0 q = none → G q)
    (k : ∀ h kc ks, kc0 ≤ kc → ks0 ≤ ks → Ext h0 h → Ar G h q (r * c) (fun x => x < r * c) (fun i => (z i).tdiv g) → K h kc ks t1 w q) :
    ∀ (m i : Nat) (h : xH) (kc ks : Nat), i + m = r * c → kc0 + 6 * m ≤ kc → ks0 + m * (2 * u) ≤ ks → Ext h0 h → Ar G h q (r * c) (fun x => x < i) (fun i => (z i).tdiv g) → wl_X4_shortened_44 post K (m + 1) h kc ks t1 w q (nI i) := by
  intro m
  induction m with
  | zero =>
    intro i h kc ks him hkc hks he hA
    rw [wl_X4_shortened_44]
    obtain ⟨a, b, ta, ⟨f, fa, fb⟩, -⟩ := T1.ext he
    obtain rfl : i = r * c := by omega
    exact ⟨_, ta, _, rfl, _, _, fa, fun _ => k h kc ks (by omega) (by omega) he hA, fun hc => absurd (nI_le (Nat.le_refl _) (by omega)) hc⟩
  | succ m ih =>
    intro i h kc ks him hkc hks he hA
    rw [wl_X4_shortened_44]
    obtain ⟨a, b', ta, ⟨f, fa, fb⟩, -⟩ := T1.ext he
    have i1 : i < r * c := by omega
    obtain ⟨y1, g1, v1⟩ := fb _ i1
    have l1 := ln_bits (B1 _ i1)
    rw [Nat.add_mul, Nat.one_mul] at hks
    obtain ⟨fs, hfs⟩ := v1.ob
    refine ⟨_, ta, _, rfl, _, _, fa, fun hc => absurd hc (nI_ge (by omega) (by omega)), fun _ => ⟨vp_in_nI i1 (by omega), y1, by rw [nI_clamp (by omega)]; exact g1, fs, hfs, 6, 2 * u, by omega, by omega, sw_dividedBy v1 (V3.ext he) (fun q hq => hG q (he.none hq)) (by omega) (by omega) (fun r5 h5 e5 v5 => ?_)⟩⟩
    refine (hA.ext e5).st (k := i) v5 i1 (by omega) (fun h8 c8 k8 hA8 x9 ex9 => ?_)
    rw [nI_1] at ex9
    rw [ex9]
    exact ih (i + 1) h8 _ _ (by omega) (by omega) (by omega) ((he.tr e5).but hq c8) (hA8.imp (fun x hx => by omega))
theorem st_shortened {h0 : xH} {t1 q1 r c D b u mc ms : Nat} {z : Nat → Int} {post : Nat → xH → Prop} (T1 : Tb G h0 t1 q1 r c z D) (hn : r * c ≤ 4) (B1 : ∀ i, i < r * c → (z i).natAbs < 2 ^ b) (hD0 : 0 < D) (hD : D < 2 ^ b) (hu : b / 16 + 10 ≤ u) (hub : b ≤ 100000) (hG : ∀ q, h0 q = none → G q) (hmc : 57 ≤ mc) (hms : 18 * u + 13 ≤ ms)
    (k : ∀ t h' q, Ext h0 h' → h0 t = none → Tb G h' t q r c (fun i => (z i).tdiv (gf D z (r * c) : Nat)) (D / gf D z (r * c)) → h0 q = none → h' q = some (.inl (3, r * c, .inr (.inr (.inr (.inr (fun _ => none)))))) → post t h') : wp_X4_shortened h0 mc ms t1 post := by
  have T1' := T1
  obtain ⟨a, b', ta, -, V1⟩ := T1'
  have hru : r * c * (2 * u) ≤ 4 * (2 * u) := Nat.mul_le_mul_right _ hn
  refine ⟨_, ta, _, rfl, r * c + 1, st_short_7 (kc0 := 33) (ks0 := 10 * u + 13) T1 hn B1 hD0 hD hu hub hG (fun h1 kc ks w hk1 hk2 x1 v1 => ?_) (r * c) 0 h0 mc ms b' (by omega) (by omega) (by omega) (Ext.rf _) V1⟩
  obtain ⟨a2, b2, ta2, ⟨f2, fa2, -⟩, -⟩ := T1.ext x1
  refine ⟨_, ta2, _, rfl, _, _, fa2, nI_pos (by omega), fun u' eu => ?_⟩
  rw [nI_clamp (by omega)] at eu
  subst eu
  refine ⟨by omega, by omega, by omega, fun q hq h3 e3 => ?_⟩
  have x3 : Ext h1 h3 := by rw [e3]; exact Ext.new hq
  have n3 := fresh_none hq
  refine ⟨r * c + 1, st_short_44 (kc0 := 8) (ks0 := 2 * u + 9) (T1.ext x1) v1 n3 hn B1 hu hub (fun q hq => hG q (x1.none hq)) (fun h4 kc' ks' hk1' hk2' x4 hA => ?_) (r * c) 0 h3 _ _ (by omega) (by omega) (by omega) x3 ⟨_, by rw [e3]; exact x_up_s, fun i hi => by omega⟩⟩
  have x04 := x1.tr x4
  refine ⟨by omega, by omega, fun q5 hq5 h5 e5 => ?_⟩
  have x5 : Ext h4 h5 := by rw [e5]; exact Ext.new hq5
  have x05 := x04.tr x5
  obtain ⟨a6, b6, ta6, -, V6⟩ := T1.ext x05
  obtain ⟨fs6, hfs6⟩ := V6.ob
  have l1 := ln_bits (show ((D : Int)).natAbs < 2 ^ b from hD)
  refine ⟨_, ta6, _, rfl, _, rfl, _, rfl, fs6, hfs6, 6, 2 * u, by omega, by omega, sw_dividedBy V6 ((v1.ext x4).ext x5) (fun q hq => hG q (x05.none hq)) (by omega) (by omega) (fun w7 h7 e7 v7 => ⟨1, r * c, by omega, by omega, ?_⟩)⟩
  rw [← Int.ofNat_tdiv] at v7
  exact st_init (x05.tr e7) (x04.none (fresh_none hq5)) (e7 _ _ (by rw [e5]; exact x_up_s)) ((hA.ext x5).ext e7) v7 (by omega) (Nat.le_refl _) (Nat.le_refl _) (fun h' q' e' t' hq' a' => k q5 h' q' e' (x04.none (fresh_none hq5)) t' hq' a')
end
