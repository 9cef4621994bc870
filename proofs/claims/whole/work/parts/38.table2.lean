/-! ===== the class's tables: times, turned (own work) ===== -/
section
def sm (f : Nat → Int) : Nat → Int
  | 0 => 0
  | n + 1 => sm f n + f n
theorem ln_bits {x b : Nat} (h : x < 2 ^ b) : ln x ≤ b / 16 + 1 := by
  refine ln_le.mpr (Nat.lt_of_lt_of_le h ?_)
  rw [tp_two]
  exact Nat.pow_le_pow_right (by decide) (by omega)
theorem mul_bits {x y : Int} {a b : Nat} (hx : x.natAbs < 2 ^ a) (hy : y.natAbs < 2 ^ b) : (x * y).natAbs < 2 ^ (a + b) := by
  rw [Int.natAbs_mul, Nat.pow_add]
  exact Nat.mul_lt_mul'' hx hy
theorem add_bits {x y : Int} {a b c : Nat} (hx : x.natAbs < 2 ^ a) (hy : y.natAbs < 2 ^ b) (ha : a ≤ c) (hb : b ≤ c) : (x + y).natAbs < 2 ^ (c + 1) := by
  have h1 : 2 ^ a ≤ 2 ^ c := Nat.pow_le_pow_right (by decide) ha
  have h2 : 2 ^ b ≤ 2 ^ c := Nat.pow_le_pow_right (by decide) hb
  have := Int.natAbs_add_le x y
  rw [Nat.pow_succ]
  omega
theorem up_bits {x a b : Nat} (hx : x < 2 ^ a) (h : a ≤ b) : x < 2 ^ b := Nat.lt_of_lt_of_le hx (Nat.pow_le_pow_right (by decide) h)
theorem sm_bits {f : Nat → Int} {b n : Nat} (hn : n ≤ 2) (h : ∀ i, i < n → (f i).natAbs < 2 ^ b) : (sm f n).natAbs < 2 ^ (b + 1) := by
  have hp : 0 < 2 ^ b := Nat.pow_pos (by decide)
  rw [Nat.pow_succ]
  match n, hn with
  | 0, _ => simp [sm]; omega
  | 1, _ =>
    have := h 0 (by decide)
    simp [sm]
    omega
  | 2, _ =>
    have h0 := h 0 (by decide)
    have h1 := h 1 (by decide)
    simp [sm]
    omega
theorem nI_mulN (a b : Nat) : nI a * nI b = nI (a * b) := by
  rw [nI_iI, nI_iI, nI_iI, iI_mul, Int.natCast_mul]
theorem ix {i j r c : Nat} (hi : i < r) (hj : j < c) : i * c + j < r * c := by
  have := Nat.mul_le_mul_right c (show i + 1 ≤ r from hi)
  rw [Nat.add_mul, Nat.one_mul] at this
  omega
theorem ixb {r c : Nat} (hr : r ≤ 2) (hc : c ≤ 2) : r * c ≤ 4 := Nat.mul_le_mul hr hc
variable {G : Nat → Prop}
theorem st_rtc_25 {post : Nat → xH → Prop} {K : xH → Nat → Nat → Nat → Prop} {h0 : xH} {t1 q1 r c D1 t2 q2 c2 D2 i j b1 b2 u : Nat} {z1 z2 : Nat → Int} (T1 : Tb G h0 t1 q1 r c z1 D1) (T2 : Tb G h0 t2 q2 c c2 z2 D2) (hi : i < r) (hj : j < c2) (hc : c ≤ 2) (hc2 : c2 ≤ 2) (hr : r ≤ 2) (B1 : ∀ i, i < r * c → (z1 i).natAbs < 2 ^ b1) (B2 : ∀ i, i < c * c2 → (z2 i).natAbs < 2 ^ b2) (hu : (b1 + b2) / 16 + 10 ≤ u) (hub : b1 + b2 ≤ 100000) (hG : ∀ q, h0 q = none → G q)
    (k : ∀ h kc ks w, Ext h0 h → Wh G h w (sm (fun l => z1 (i * c + l) * z2 (l * c2 + j)) c) → K h kc ks w) :
    ∀ (m l : Nat) (h : xH) (kc ks w : Nat), l + m = c → 4 * m ≤ kc → m * (2 * u) ≤ ks → Ext h0 h → Wh G h w (sm (fun l => z1 (i * c + l) * z2 (l * c2 + j)) l) → wl_X4_rowTimesColumn_25 post K (m + 1) h kc ks t1 (nI i) t2 (nI j) w (nI l) := by
  intro m
  induction m with
  | zero =>
    intro l h kc ks w hlm hkc hks he hw
    rw [wl_X4_rowTimesColumn_25]
    obtain ⟨a, b, t1a, -⟩ := T1.ext he
    obtain rfl : l = c := by omega
    exact ⟨_, t1a, _, rfl, fun _ => k h kc ks w he hw, fun hc => absurd (nI_le (Nat.le_refl _) (by omega)) hc⟩
  | succ m ih =>
    intro l h kc ks w hlm hkc hks he hw
    rw [wl_X4_rowTimesColumn_25]
    obtain ⟨a, b, t1a, ⟨f1, f1a, f1b⟩, -⟩ := T1.ext he
    obtain ⟨a', b', t2a, ⟨f2, f2a, f2b⟩, -⟩ := T2.ext he
    have i1 := ix hi (show l < c by omega)
    have i2 := ix (show l < c by omega) hj
    have ib1 := ixb hr hc
    have ib2 := ixb hc hc2
    obtain ⟨w1, g1, v1⟩ := f1b _ i1
    obtain ⟨w2, g2, v2⟩ := f2b _ i2
    have bb1 := B1 _ i1
    have bb2 := B2 _ i2
    have l1 := ln_bits bb1
    have l2 := ln_bits bb2
    rw [Nat.add_mul, Nat.one_mul] at hks
    refine ⟨_, t1a, _, rfl, fun hc => absurd hc (nI_ge (by omega) (by omega)), fun _ => ⟨_, rfl, _, _, f1a, ?_⟩⟩
    rw [nI_mulN, nI_add, nI_clamp (by omega)]
    refine ⟨vp_in_nI i1 (by omega), w1, g1, _, t2a, _, rfl, _, rfl, _, _, f2a, ?_⟩
    rw [nI_mulN, nI_add, nI_clamp (by omega)]
    obtain ⟨fs, hfs⟩ := v1.ob
    refine ⟨vp_in_nI i2 (by omega), w2, g2, fs, hfs, 2, u, by omega, by omega, sw_times v1 v2 (fun q hq => hG q (he.none hq)) (by omega) (by omega) (by omega) (fun w3 h3 e3 v3 => ?_)⟩
    obtain ⟨fs3, hfs3⟩ := (hw.ext e3).ob
    have m3 := mul_bits bb1 bb2
    have m4 := ln_bits m3
    have s3 : (sm (fun l => z1 (i * c + l) * z2 (l * c2 + j)) l).natAbs < 2 ^ (b1 + b2 + 1) := sm_bits (by omega) (fun l' hl' => mul_bits (B1 _ (ix hi (by omega))) (B2 _ (ix (by omega) hj)))
    have s4 := ln_bits s3
    refine ⟨fs3, hfs3, 2, u, by omega, by omega, sw_plus (N := (b1 + b2 + 1) / 16 + 1) (hw.ext e3) v3 (fun q hq => hG q ((he.tr e3).none hq)) ⟨s4, by omega⟩ (by omega) (by omega) (by omega) (fun w5 h5 e5 v5 x5 ex5 => ?_)⟩
    rw [nI_1] at ex5
    rw [ex5]
    exact ih (l + 1) h5 _ _ w5 (by omega) (by omega) (by omega) ((he.tr e3).tr e5) v5
theorem st_rtc {h0 : xH} {t1 q1 r c D1 t2 q2 c2 D2 i j b1 b2 u mc ms : Nat} {z1 z2 : Nat → Int} {post : Nat → xH → Prop} (T1 : Tb G h0 t1 q1 r c z1 D1) (T2 : Tb G h0 t2 q2 c c2 z2 D2) (hi : i < r) (hj : j < c2) (hc1 : 1 ≤ c) (hc : c ≤ 2) (hc2 : c2 ≤ 2) (hr : r ≤ 2) (B1 : ∀ i, i < r * c → (z1 i).natAbs < 2 ^ b1) (B2 : ∀ i, i < c * c2 → (z2 i).natAbs < 2 ^ b2) (hu : (b1 + b2) / 16 + 10 ≤ u) (hub : b1 + b2 ≤ 100000) (hG : ∀ q, h0 q = none → G q) (hmc : 6 ≤ mc) (hms : 3 * u ≤ ms)
    (k : ∀ w h, Ext h0 h → Wh G h w (sm (fun l => z1 (i * c + l) * z2 (l * c2 + j)) c) → post w h) : wp_X4_rowTimesColumn h0 mc ms t1 (nI i) t2 (nI j) post := by
  have T1' := T1
  have T2' := T2
  obtain ⟨a, b, t1a, ⟨f1, f1a, f1b⟩, -⟩ := T1'
  obtain ⟨a', b', t2a, ⟨f2, f2a, f2b⟩, -⟩ := T2'
  have i1 := ix hi (show 0 < c by omega)
  have i2 := ix (show 0 < c by omega) hj
  have ib1 := ixb hr hc
  have ib2 := ixb hc hc2
  rw [Nat.add_zero] at i1
  rw [Nat.zero_mul, Nat.zero_add] at i2
  obtain ⟨w1, g1, v1⟩ := f1b _ i1
  obtain ⟨w2, g2, v2⟩ := f2b _ i2
  have l1 := ln_bits (B1 _ i1)
  have l2 := ln_bits (B2 _ i2)
  obtain ⟨fs, hfs⟩ := v1.ob
  refine ⟨_, t1a, _, rfl, _, rfl, _, _, f1a, ?_⟩
  rw [nI_mulN, nI_clamp (by omega)]
  refine ⟨vp_in_nI i1 (by omega), w1, g1, _, t2a, _, rfl, _, _, f2a, vp_in_nI i2 (by omega), w2, ?_, fs, hfs, 2, u, by omega, by omega, sw_times v1 v2 hG (by omega) (by omega) (by omega) (fun w3 h3 e3 v3 => ?_)⟩
  · rw [nI_clamp (by omega)]
    exact g2
  · refine ⟨c - 1 + 1, st_rtc_25 T1 T2 hi hj hc hc2 hr B1 B2 hu hub hG (fun h kc ks w he hw => k w h he hw) (c - 1) 1 h3 _ _ w3 (by omega) (by omega) ?_ e3 (v3.to ?_)⟩
    · have : (c - 1) * (2 * u) ≤ 1 * (2 * u) := Nat.mul_le_mul_right _ (by omega)
      omega
    · simp [sm]
/-- the numbers of a product -/
def mz (z1 z2 : Nat → Int) (c c2 : Nat) (k : Nat) : Int := sm (fun l => z1 (k / c2 * c + l) * z2 (l * c2 + k % c2)) c
theorem mz_at {z1 z2 : Nat → Int} {c c2 i j : Nat} (hj : j < c2) : mz z1 z2 c c2 (i * c2 + j) = sm (fun l => z1 (i * c + l) * z2 (l * c2 + j)) c := by
  unfold mz
  have hp : 0 < c2 := by omega
  rw [Nat.mul_comm i c2, Nat.mul_add_div hp, Nat.div_eq_of_lt hj, Nat.add_zero, Nat.mul_add_mod, Nat.mod_eq_of_lt hj]
theorem mz_bits {z1 z2 : Nat → Int} {r c c2 b1 b2 : Nat} (hc : c ≤ 2) (B1 : ∀ i, i < r * c → (z1 i).natAbs < 2 ^ b1) (B2 : ∀ i, i < c * c2 → (z2 i).natAbs < 2 ^ b2) : ∀ k, k < r * c2 → (mz z1 z2 c c2 k).natAbs < 2 ^ (b1 + b2 + 1) := by
  intro k hk
  have hp : 0 < c2 := Nat.pos_of_ne_zero (fun w => by rw [w] at hk; omega)
  have h1 : k / c2 < r := (Nat.div_lt_iff_lt_mul hp).mpr hk
  have h2 : k % c2 < c2 := Nat.mod_lt _ hp
  exact sm_bits hc (fun l hl => mul_bits (B1 _ (ix h1 hl)) (B2 _ (ix hl h2)))
theorem st_times_26 {post : Nat → xH → Prop} {K : xH → Nat → Nat → Nat → Nat → Nat → Int32 → Prop} {h0 : xH} {t1 q1 r c D1 t2 q2 c2 D2 i b1 b2 u q kc0 ks0 : Nat} {z1 z2 : Nat → Int} (T1 : Tb G h0 t1 q1 r c z1 D1) (T2 : Tb G h0 t2 q2 c c2 z2 D2) (hq : h0 q = none) (hi : i < r) (hc1 : 1 ≤ c) (hc : c ≤ 2) (hc2 : c2 ≤ 2) (hr : r ≤ 2) (B1 : ∀ i, i < r * c → (z1 i).natAbs < 2 ^ b1) (B2 : ∀ i, i < c * c2 → (z2 i).natAbs < 2 ^ b2) (hu : (b1 + b2) / 16 + 10 ≤ u) (hub : b1 + b2 ≤ 100000) (hG : ∀ q, h0 q = none → G q)
    (k : ∀ h kc ks, kc0 ≤ kc → ks0 ≤ ks → Ext h0 h → Ar G h q (r * c2) (fun x => x < (i + 1) * c2) (mz z1 z2 c c2) → K h kc ks t1 t2 q (nI i)) :
    ∀ (m j : Nat) (h : xH) (kc ks : Nat), j + m = c2 → kc0 + 6 * m ≤ kc → ks0 + m * (3 * u) ≤ ks → Ext h0 h → Ar G h q (r * c2) (fun x => x < i * c2 + j) (mz z1 z2 c c2) → wl_X4_times_26 post K (m + 1) h kc ks t1 t2 q (nI i) (nI j) := by
  intro m
  induction m with
  | zero =>
    intro j h kc ks hjm hkc hks he hA
    rw [wl_X4_times_26]
    obtain ⟨a', b', t2a, -⟩ := T2.ext he
    obtain rfl : j = c2 := by omega
    refine ⟨_, t2a, _, rfl, fun _ => k h kc ks (by omega) (by omega) he (hA.imp (fun x hx => ?_)), fun hc => absurd (nI_le (Nat.le_refl _) (by omega)) hc⟩
    rw [Nat.add_mul, Nat.one_mul] at hx
    exact hx
  | succ m ih =>
    intro j h kc ks hjm hkc hks he hA
    rw [wl_X4_times_26]
    have T1h := T1.ext he
    have T2h := T2.ext he
    have T1h' := T1h
    have T2h' := T2h
    obtain ⟨a, b, t1a, -⟩ := T1h'
    obtain ⟨a', b', t2a, -⟩ := T2h'
    rw [Nat.add_mul, Nat.one_mul] at hks
    have hj : j < c2 := by omega
    have i2 := ix hi hj
    have ib2 := ixb hr hc2
    refine ⟨_, t2a, _, rfl, fun hc => absurd hc (nI_ge (by omega) (by omega)), fun _ => ⟨_, t1a, 6, 3 * u, by omega, by omega, st_rtc T1h T2h hi hj hc1 hc hc2 hr B1 B2 hu hub (fun q hq => hG q (he.none hq)) (Nat.le_refl _) (Nat.le_refl _) (fun w h1 e1 v1 => ?_)⟩⟩
    rw [← mz_at hj] at v1
    rw [nI_mulN, nI_add]
    refine (hA.ext e1).st (k := i * c2 + j) v1 i2 (by omega) (fun h2 c2' k2 hA2 x4 ex4 => ?_)
    rw [nI_1] at ex4
    rw [ex4]
    exact ih (j + 1) h2 _ _ (by omega) (by omega) (by omega) ((he.tr e1).but hq c2') (hA2.imp (fun x hx => by omega))
theorem st_times_15 {post : Nat → xH → Prop} {K : xH → Nat → Nat → Nat → Nat → Nat → Prop} {h0 : xH} {t1 q1 r c D1 t2 q2 c2 D2 b1 b2 u q kc0 ks0 : Nat} {z1 z2 : Nat → Int} (T1 : Tb G h0 t1 q1 r c z1 D1) (T2 : Tb G h0 t2 q2 c c2 z2 D2) (hq : h0 q = none) (hc1 : 1 ≤ c) (hc : c ≤ 2) (hc2 : c2 ≤ 2) (hr : r ≤ 2) (B1 : ∀ i, i < r * c → (z1 i).natAbs < 2 ^ b1) (B2 : ∀ i, i < c * c2 → (z2 i).natAbs < 2 ^ b2) (hu : (b1 + b2) / 16 + 10 ≤ u) (hub : b1 + b2 ≤ 100000) (hG : ∀ q, h0 q = none → G q)
    (k : ∀ h kc ks, kc0 ≤ kc → ks0 ≤ ks → Ext h0 h → Ar G h q (r * c2) (fun x => x < r * c2) (mz z1 z2 c c2) → K h kc ks t1 t2 q) :
    ∀ (m i : Nat) (h : xH) (kc ks : Nat), i + m = r → kc0 + 12 * m ≤ kc → ks0 + m * (6 * u) ≤ ks → Ext h0 h → Ar G h q (r * c2) (fun x => x < i * c2) (mz z1 z2 c c2) → wl_X4_times_15 post K (m + 1) h kc ks t1 t2 q (nI i) := by
  intro m
  induction m with
  | zero =>
    intro i h kc ks him hkc hks he hA
    rw [wl_X4_times_15]
    obtain ⟨a, b, t1a, -⟩ := T1.ext he
    obtain rfl : i = r := by omega
    exact ⟨_, t1a, _, rfl, fun _ => k h kc ks (by omega) (by omega) he hA, fun hc => absurd (nI_le (Nat.le_refl _) (by omega)) hc⟩
  | succ m ih =>
    intro i h kc ks him hkc hks he hA
    rw [wl_X4_times_15]
    obtain ⟨a, b, t1a, -⟩ := T1.ext he
    rw [Nat.add_mul, Nat.one_mul] at hks
    have h2u : c2 * (3 * u) ≤ 2 * (3 * u) := Nat.mul_le_mul_right _ hc2
    refine ⟨_, t1a, _, rfl, fun hc => absurd hc (nI_ge (by omega) (by omega)), fun _ => ⟨c2 + 1, st_times_26 (i := i) (kc0 := kc0 + 12 * m) (ks0 := ks0 + m * (6 * u)) T1 T2 hq (by omega) hc1 hc hc2 hr B1 B2 hu hub hG (fun h' kc' ks' hk1 hk2 he' hA' x3 ex3 => ?_) c2 0 h kc ks (by omega) (by omega) (by omega) he (hA.imp (fun x hx => by omega))⟩⟩
    rw [nI_1] at ex3
    rw [ex3]
    exact ih (i + 1) h' kc' ks' (by omega) hk1 hk2 he' hA'
theorem st_times {h0 : xH} {t1 q1 r c D1 t2 q2 c2 D2 b1 b2 u mc ms : Nat} {z1 z2 : Nat → Int} {post : Nat → xH → Prop} (T1 : Tb G h0 t1 q1 r c z1 D1) (T2 : Tb G h0 t2 q2 c c2 z2 D2) (hc1 : 1 ≤ c) (hc : c ≤ 2) (hc2 : c2 ≤ 2) (hr : r ≤ 2) (B1 : ∀ i, i < r * c → (z1 i).natAbs < 2 ^ b1) (B2 : ∀ i, i < c * c2 → (z2 i).natAbs < 2 ^ b2) (hD1 : D1 < 2 ^ b1) (hD2 : D2 < 2 ^ b2) (hu : (b1 + b2) / 16 + 10 ≤ u) (hub : b1 + b2 ≤ 100000) (hG : ∀ q, h0 q = none → G q) (hmc : 29 ≤ mc) (hms : 13 * u + 13 ≤ ms)
    (k : ∀ t h' q, Ext h0 h' → h0 t = none → Tb G h' t q r c2 (mz z1 z2 c c2) (D1 * D2) → h0 q = none → h' q = some (.inl (3, r * c2, .inr (.inr (.inr (.inr (fun _ => none)))))) → post t h') : wp_X4_times h0 mc ms t1 t2 post := by
  have T1' := T1
  have T2' := T2
  obtain ⟨a, b, t1a, -⟩ := T1'
  obtain ⟨a', b', t2a, -⟩ := T2'
  have ib2 := ixb hr hc2
  refine ⟨_, t1a, _, rfl, _, t2a, _, rfl, ?_⟩
  rw [nI_mulN]
  refine ⟨nI_pos (by omega), fun u' eu => ?_⟩
  rw [nI_clamp (by omega)] at eu
  subst eu
  refine ⟨by omega, by omega, by omega, fun q hq h1 e1 => ?_⟩
  have x1 : Ext h0 h1 := by rw [e1]; exact Ext.new hq
  have n1 := fresh_none hq
  have hru : r * (6 * u) ≤ 2 * (6 * u) := Nat.mul_le_mul_right _ hr
  refine ⟨r + 1, st_times_15 (kc0 := 4) (ks0 := u + 9) T1 T2 n1 hc1 hc hc2 hr B1 B2 hu hub hG (fun h2 kc ks hk1 hk2 x2 hA => ?_) r 0 h1 _ _ (by omega) (by omega) (by omega) x1 ⟨_, by rw [e1]; exact x_up_s, fun i hi => by omega⟩⟩
  refine ⟨by omega, by omega, fun q3 hq3 h3 e3 => ?_⟩
  have x3 : Ext h2 h3 := by rw [e3]; exact Ext.new hq3
  obtain ⟨a3, b3, t1b, -, w1⟩ := T1.ext (x2.tr x3)
  obtain ⟨a4, b4, t2b, -, w2⟩ := T2.ext (x2.tr x3)
  obtain ⟨fs, hfs⟩ := w1.ob
  have l1 := ln_bits (show ((D1 : Int)).natAbs < 2 ^ b1 from hD1)
  have l2 := ln_bits (show ((D2 : Int)).natAbs < 2 ^ b2 from hD2)
  refine ⟨_, t1b, _, rfl, _, t2b, _, rfl, _, rfl, _, rfl, fs, hfs, 2, u, by omega, by omega, sw_times w1 w2 (fun q hq => hG q ((x2.tr x3).none hq)) (by omega) (by omega) (by omega) (fun w4 h4 e4 v4 => ⟨1, r * c2, by omega, by omega, ?_⟩)⟩
  exact st_init ((x2.tr x3).tr e4) (x2.none (fresh_none hq3)) (e4 _ _ (by rw [e3]; exact x_up_s)) ((hA.ext x3).ext e4) (v4.to (Int.natCast_mul _ _).symm) (by omega) (Nat.le_refl _) (Nat.le_refl _) (fun h' q' e' t' hq' a' => k q3 h' q' e' (x2.none (fresh_none hq3)) t' hq' a')
end
