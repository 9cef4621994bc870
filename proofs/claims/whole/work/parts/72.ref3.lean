/-! ===== the reference's public methods over the state: predict, measure (own work) ===== -/
theorem rp_sz {v : Nat → Rat} {N b x : Nat} (h : Rp v N b) (hb : b ≤ 2560) (hx : x < N) : sz (v x) 160 := by
  obtain ⟨w, E, h1, h2, h3⟩ := h
  rw [(h3 x hx).2]
  refine sz_mkRat (by omega) (ln_le.mpr ?_) (ln_le.mpr ?_)
  · rw [tp_two]
    exact up_bits (h3 x hx).1 (by omega)
  · rw [tp_two]
    exact up_bits h2 (by omega)
theorem e_predict {th : Int32} {ab be pi le sg wo : Nat → Int32} {s : AS} {Q : Nat → Option Rat} {post : Int32 → Int32 → Int32 → (Nat → Int32) → (Nat → Int32) → (Nat → Int32) → (Nat → Int32) → Prop} (hM : MD ab be s.an s.ad) (hF : FS pi le sg Q) (hQ : RQ s Q) (ok : s.ok)
    (k1 : s.sd = 1 → fitP s.n 4 s.an s.ad → s.p < 4 → ∀ pi' le' sg' wo' Q', FS pi' le' sg' Q' → RQ (sPred s) Q' → post (nI (s.p + 1)) 0 (nI (s.p + 1)) pi' le' sg' wo')
    (k0 : ¬ (s.sd = 1 ∧ fitP s.n 4 s.an s.ad ∧ s.p < 4) → post 0 1 (nI s.p) pi le sg wo) : wp_X7_predict th (nI s.n) (nI s.sd) (nI s.p) ab be pi le sg wo post := by
  obtain ⟨n1, n2, o3, o4, o5, o6, o7, o8, o9⟩ := ok
  have no : ¬ (s.sd = 1 ∧ fitP s.n 4 s.an s.ad ∧ s.p < 4) → wj_X7_predict_24 (nI s.n) (nI s.sd) ab be post th (nI s.p) pi le sg wo := fun z => ⟨fun w => absurd w (by decide), fun _ => k0 z⟩
  rw [wp_X7_predict]
  have hsd : nI s.sd = 0 ↔ s.sd = 0 := by rw [show (0 : Int32) = nI 0 from rfl, nI_eq (by omega) (by decide)]
  have hp4 : nI s.p = 4 ↔ s.p = 4 := by rw [show (4 : Int32) = nI 4 from rfl, nI_eq (by omega) (by decide)]
  rw [hsd, hp4]
  refine ⟨fun e => no (fun z => by omega), fun e => e_fit (k := 4) hM n1 n2 (by decide) (fun hf => ⟨fun z => absurd z (by decide), fun _ => ⟨fun ep => ⟨fun _ => ?_, fun z => absurd rfl z⟩, fun ep => no (fun z => by omega)⟩⟩) (fun hf => ⟨fun _ => no (fun z => hf z.2.1), fun z => absurd rfl z⟩)⟩
  have sd1 : s.sd = 1 := by omega
  have k1 := k1 sd1 hf (by omega)
  rw [nI_1]
  obtain ⟨rX, rP, -⟩ := o9 sd1
  obtain ⟨bb1, bb2⟩ := bits_all s.p (by omega) s.m (by omega)
  obtain ⟨q1, q2, q3⟩ := hQ sd1
  rcases n12 n1 n2 with hn | hn
  · rw [hn] at rX rP q1 q2 q3 ⊢
    have f0 : FS pi le sg (lk [(0, some (s.X 0)), (2, some (s.P 0)), (6, Q 6), (7, Q 7), (8, Q 8), (9, Q 9)]) := hF.lk ⟨q1 0 (by decide), q2 0 0 (by decide) (by decide), rfl, rfl, rfl, rfl, trivial⟩
    refine sp_doPredict1 hM f0 (rp_sz rX bb1 (by decide)) (rp_sz rP bb2 (by decide)) (fun pi' le' sg' wo' h => k1 _ _ _ _ _ h (fun _ => ⟨fun i hi => ?_, fun i j hi hj => ?_, fun hm => ?_⟩))
    · have hi : i < s.n := hi
      obtain rfl : i = 0 := by omega
      show some _ = some (pmv (pv s.an s.ad s.n 2) s.X (pv s.an s.ad 1 3) s.n 0)
      rw [hn, pmv1]
      rfl
    · have hi : i < s.n := hi
      have hj : j < s.n := hj
      obtain rfl : i = 0 := by omega
      obtain rfl : j = 0 := by omega
      show some _ = some (pcv (pv s.an s.ad s.n 2) s.P (pv s.an s.ad s.n 4) s.n (0 * s.n + 0))
      rw [hn, pcv1]
      rfl
    · obtain ⟨z1, z2, z3⟩ := q3 hm
      refine ⟨z1, z2, fun i hi => ?_⟩
      have hi : i < s.n := hi
      obtain rfl : i = 0 := by omega
      exact z3 0 (by decide)
  · rw [hn] at rX rP q1 q2 q3 ⊢
    have f0 : FS pi le sg (lk [(0, some (s.X 0)), (1, some (s.X 1)), (2, some (s.P 0)), (3, some (s.P 1)), (4, some (s.P 2)), (5, some (s.P 3)), (6, Q 6), (7, Q 7), (8, Q 8), (9, Q 9)]) := hF.lk ⟨q1 0 (by decide), q1 1 (by decide), q2 0 0 (by decide) (by decide), q2 0 1 (by decide) (by decide), q2 1 0 (by decide) (by decide), q2 1 1 (by decide) (by decide), rfl, rfl, rfl, rfl, trivial⟩
    refine sp_doPredict2 hM f0 (rp_sz rX bb1 (by decide)) (rp_sz rX bb1 (by decide)) (rp_sz rP bb2 (by decide)) (rp_sz rP bb2 (by decide)) (rp_sz rP bb2 (by decide)) (rp_sz rP bb2 (by decide)) (fun pi' le' sg' wo' h => k1 _ _ _ _ _ h (fun _ => ⟨fun i hi => ?_, fun i j hi hj => ?_, fun hm => ?_⟩))
    · have hi : i < s.n := hi
      obtain rfl | rfl : i = 0 ∨ i = 1 := by omega
      · show some _ = some (pmv (pv s.an s.ad s.n 2) s.X (pv s.an s.ad 1 3) s.n 0)
        rw [hn, pmv20]
        rfl
      · show some _ = some (pmv (pv s.an s.ad s.n 2) s.X (pv s.an s.ad 1 3) s.n 1)
        rw [hn, pmv21]
        rfl
    · have hi : i < s.n := hi
      have hj : j < s.n := hj
      show _ = some (pcv (pv s.an s.ad s.n 2) s.P (pv s.an s.ad s.n 4) s.n (i * s.n + j))
      rw [hn, Nat.mul_comm i 2, pcv2 (by omega) (by omega)]
      obtain rfl | rfl : i = 0 ∨ i = 1 := by omega
      · obtain rfl | rfl : j = 0 ∨ j = 1 := by omega
        · rfl
        · rfl
      · obtain rfl | rfl : j = 0 ∨ j = 1 := by omega
        · rfl
        · rfl
    · obtain ⟨z1, z2, z3⟩ := q3 hm
      refine ⟨z1, z2, fun i hi => ?_⟩
      have hi : i < s.n := hi
      obtain rfl | rfl : i = 0 ∨ i = 1 := by omega
      · exact z3 0 (by decide)
      · exact z3 1 (by decide)
theorem rq_ext {a : Int} {d e : Nat} (hd : 0 < d) (he : 0 < e) : mkRat (a * (e : Int)) (d * e) = mkRat a d := by
  have := Nat.mul_pos hd he
  rw [Rat.mkRat_eq_iff (by omega) (by omega), Int.natCast_mul]
  grind
theorem rp_H {an : Nat → Int} {ad : Nat → Nat} {n : Nat} (n1 : 1 ≤ n) (n2 : n ≤ 2) (hb : ∀ x, x < 40 → (an x).natAbs ≤ 20 ∧ 1 ≤ ad x ∧ ad x ≤ 20) : Rp (pv an ad 1 5) n 9 := by
  obtain ⟨a1, a2, a3⟩ := hb 20 (by decide)
  obtain ⟨b1, b2, b3⟩ := hb 22 (by decide)
  have m1 := Nat.mul_le_mul a3 b3
  have m2 := Nat.mul_le_mul a1 b3
  have m3 := Nat.mul_le_mul b1 a3
  refine ⟨fun x => if x = 0 then an 20 * (ad 22 : Int) else an 22 * (ad 20 : Int), ad 20 * ad 22, Nat.mul_pos a2 b2, by omega, fun x hx => ?_⟩
  obtain rfl | rfl : x = 0 ∨ x = 1 := by omega
  · refine ⟨?_, ?_⟩
    · show (an 20 * (ad 22 : Int)).natAbs < _
      rw [Int.natAbs_mul, Int.natAbs_natCast]
      omega
    · show _ = mkRat (an 20 * (ad 22 : Int)) _
      rw [rq_ext a2 b2]
      rfl
  · refine ⟨?_, ?_⟩
    · show (an 22 * (ad 20 : Int)).natAbs < _
      rw [Int.natAbs_mul, Int.natAbs_natCast]
      omega
    · show _ = mkRat (an 22 * (ad 20 : Int)) _
      rw [Nat.mul_comm (ad 20), rq_ext b2 a2]
      rfl
theorem rp_R {an : Nat → Int} {ad : Nat → Nat} (hb : ∀ x, x < 40 → (an x).natAbs ≤ 20 ∧ 1 ≤ ad x ∧ ad x ≤ 20) : Rp (pv an ad 1 6) 1 5 := by
  obtain ⟨a1, a2, a3⟩ := hb 24 (by decide)
  refine ⟨fun _ => an 24, ad 24, a2, by omega, fun x hx => ⟨(by show (an 24).natAbs < 2 ^ 5; omega), ?_⟩⟩
  obtain rfl : x = 0 := by omega
  rfl
theorem rp_hs {H P R : Nat → Rat} {n B : Nat} (n1 : 1 ≤ n) (n2 : n ≤ 2) (rP : Rp P (n * n) B) (rH : Rp H n 9) (rR : Rp R 1 5) : Rp (hpv H P n) n (B + 10) ∧ Rp (fun _ => sv H P R n) 1 (B + 26) := by
  obtain ⟨N, d, P1, P2, P3⟩ := rP
  obtain ⟨HH, hd, H1, H2, H3⟩ := rH
  obtain ⟨rr, rd, R1, R2, R3⟩ := rR
  have eH : ∀ x, x < n → H x = mkRat (HH x) hd := fun x hx => (H3 x hx).2
  have eP : ∀ x, x < n * n → P x = mkRat (N x) d := fun x hx => (P3 x hx).2
  have eS := sv_rp (R := R) H1 P1 R1 eH eP (R3 0 (by omega)).2
  have eW := hpv_rp H1 P1 eH eP
  have bW : ∀ k, k < 1 * n → (mz HH N n n k).natAbs < 2 ^ (9 + B + 1) := mz_bits n2 (fun i hi => (H3 i (by omega)).1) (fun i hi => (P3 i hi).1)
  have bV : (mz (mz HH N n n) HH n 1 0).natAbs < 2 ^ (9 + B + 1 + 9 + 1) := mz_bits (r := 1) n2 bW (fun i hi => (H3 i (by omega)).1) 0 (by omega)
  refine ⟨⟨mz HH N n n, hd * d, Nat.mul_pos H1 P1, up_bits (mulN_bits H2 P2) (by omega), fun x hx => ⟨up_bits (bW x (by omega)) (by omega), eW x hx⟩⟩, ⟨_, _, ?_, ?_, fun x hx => ⟨?_, eS⟩⟩⟩
  · exact Nat.mul_pos (Nat.mul_pos (Nat.mul_pos H1 P1) H1) R1
  · exact up_bits (mulN_bits (mulN_bits (mulN_bits H2 P2) H2) R2) (by omega)
  · have b1 : (mz (mz HH N n n) HH n 1 0 * (rd : Int)).natAbs < 2 ^ (9 + B + 1 + 9 + 1 + 5) := mul_bits bV (by omega)
    have b2 : (rr 0 * ((hd * d * hd : Nat) : Int)).natAbs < 2 ^ (5 + (9 + B + 9)) := mul_bits (R3 0 (by omega)).1 (by rw [Int.natAbs_natCast]; exact mulN_bits (mulN_bits H2 P2) H2)
    exact up_bits (add_bits (c := B + 25) b1 b2 (by omega) (by omega)) (by omega)
theorem e_measure {th : Int32} {ab be pi le sg wo : Nat → Int32} {y1 y2 : Int32} {s : AS} {Q : Nat → Option Rat} {post : Int32 → Int32 → Int32 → (Nat → Int32) → (Nat → Int32) → (Nat → Int32) → (Nat → Int32) → Prop} (hM : MD ab be s.an s.ad) (hF : FS pi le sg Q) (hQ : RQ s Q) (ok : s.ok)
    (k1 : ∀ a b, isFr y1 y2 a b → s.sd = 1 → fitP 1 6 s.an s.ad → s.m < 3 → sv s.H s.P s.R s.n ≠ 0 → ∀ pi' le' sg' wo' Q', FS pi' le' sg' Q' → RQ (sMeas s (mkRat a b)) Q' → post (nI (s.m + 1)) 0 (nI (s.m + 1)) pi' le' sg' wo')
    (ka : (¬ ∃ a b, isFr y1 y2 a b) → post 0 1 (nI s.m) pi le sg wo)
    (ks : (∃ a b, isFr y1 y2 a b) → ¬ (s.sd = 1 ∧ fitP 1 6 s.an s.ad ∧ s.m < 3) → post 0 2 (nI s.m) pi le sg wo)
    (kr : (∃ a b, isFr y1 y2 a b) → s.sd = 1 → fitP 1 6 s.an s.ad → s.m < 3 → sv s.H s.P s.R s.n = 0 → ∀ pi' le' sg' wo' Q', FS pi' le' sg' Q' → RQ s Q' → post 0 3 (nI s.m) pi' le' sg' wo') : wp_X7_measure th (nI s.n) (nI s.sd) (nI s.m) ab be pi le sg wo y1 y2 post := by
  obtain ⟨n1, n2, o3, o4, o5, o6, o7, o8, o9⟩ := ok
  refine e_noFr (fun a b hab => ⟨fun _ => ?_, fun z => absurd rfl z⟩) (fun hf => ⟨fun z => absurd z (by decide), fun _ => ⟨fun z => absurd z (by decide), fun _ => ka hf⟩⟩)
  have no : ¬ (s.sd = 1 ∧ fitP 1 6 s.an s.ad ∧ s.m < 3) → wj_X7_measure_43 (nI s.n) (nI s.sd) ab be post th (nI s.m) pi le sg wo y1 y2 := fun z => ⟨fun w => absurd w (by decide), fun _ => ks ⟨a, b, hab⟩ z⟩
  have hsd : nI s.sd = 0 ↔ s.sd = 0 := by rw [show (0 : Int32) = nI 0 from rfl, nI_eq (by omega) (by decide)]
  have hm3 : nI s.m = 3 ↔ s.m = 3 := by rw [show (3 : Int32) = nI 3 from rfl, nI_eq (by omega) (by decide)]
  have e24 : ((4 * 6 + 2 * 0 + 0 : Int32)) = nI 24 := by decide
  simp only [wp_X7_at]
  rw [hsd, hm3, e24, nI_clamp (by decide)]
  obtain ⟨m1, m2, m3, m4, m5⟩ := hM 24 (by decide)
  rw [m1, show (0 : Int32) = iI 0 from rfl, iI_lt (by omega) (by decide)]
  refine ⟨fun e => no (fun z => by omega), fun e => ⟨vp_in_nI (by decide) (by decide), fun e2 => no (fun z => by have : 0 ≤ s.an 24 := z.2.1.1; omega), fun e2 => ⟨fun e3 => ?_, fun e3 => no (fun z => by omega)⟩⟩⟩
  have sd1 : s.sd = 1 := by omega
  have hf : fitP 1 6 s.an s.ad := ⟨(by show 0 ≤ s.an 24; omega), fun z => absurd z (by decide)⟩
  have kk1 := k1 a b hab sd1 hf (by omega)
  have kkr := kr ⟨a, b, hab⟩ sd1 hf (by omega)
  obtain ⟨rX, rP, hpsd⟩ := o9 sd1
  obtain ⟨-, -, bm1, bm2⟩ := bits_meas s.p (by omega) s.m (by omega)
  obtain ⟨q1, q2, q3⟩ := hQ sd1
  obtain ⟨rW, rS⟩ := rp_hs n1 n2 rP (rp_H n1 n2 o7) (rp_R o7)
  obtain ⟨f1, f2, f3, f4, f5⟩ := hab
  subst f1 f2
  have szS : sz (sv s.H s.P s.R s.n) 160 := rp_sz (x := 0) rS (by omega) (by decide)
  rw [show (iI 0 : Int32) = 0 from rfl]
  rcases n12 n1 n2 with hn | hn
  · rw [hn] at rX rP rW q1 q2 q3 szS kk1 kkr ⊢
    have f0 : FS pi le sg (lk [(0, some (s.X 0)), (2, some (s.P 0)), (6, Q 6), (7, Q 7), (8, Q 8), (9, Q 9)]) := hF.lk ⟨q1 0 (by decide), q2 0 0 (by decide) (by decide), rfl, rfl, rfl, rfl, trivial⟩
    have eg : mkRat 0 1 + s.P 0 * md s.an s.ad 5 0 0 = hpv s.H s.P 1 0 := by rw [hpv1]; rfl
    have es : md s.an s.ad 6 0 0 + md s.an s.ad 5 0 0 * hpv s.H s.P 1 0 = sv s.H s.P s.R 1 := by rw [sv1]; rfl
    refine sp_variance1 hM f0 (rp_sz rX (by omega) (by decide)) (rp_sz rP (by omega) (by decide)) (fun pi' le' sg' wo' h0 h => ⟨fun z => absurd rfl z, fun _ => ⟨fun z => absurd z (by decide), fun _ => ?_⟩⟩) (fun pi' le' sg' wo' h0 h => ⟨fun _ => ⟨fun _ => ?_, fun z => absurd rfl z⟩, fun z => absurd z (by decide)⟩)
    · rw [eg, es] at h0
      refine kkr h0 _ _ _ _ _ h (fun _ => ⟨fun i hi => ?_, fun i j hi hj => ?_, fun hm => ?_⟩)
      · obtain rfl : i = 0 := by omega
        rfl
      · obtain rfl : i = 0 := by omega
        obtain rfl : j = 0 := by omega
        rw [hn]
        rfl
      · obtain ⟨z1, z2, z3⟩ := q3 hm
        refine ⟨z1, z2, fun i hi => ?_⟩
        obtain rfl : i = 0 := by omega
        exact z3 0 (by decide)
    · rw [eg, es] at h0
      rw [eg, es] at h
      rw [nI_1]
      refine sp_doMeasure1 hM h (rp_sz rX (by omega) (by decide)) (rp_sz rP (by omega) (by decide)) (rp_sz rW (by omega) (by decide)) szS h0 f3 (by omega) f5 (fun pi' le' sg' wo' h => kk1 h0 _ _ _ _ _ h (fun _ => ⟨fun i hi => ?_, fun i j hi hj => ?_, fun hm => ⟨?_, ?_, fun i hi => ?_⟩⟩))
      · have hi : i < s.n := hi
        obtain rfl : i = 0 := by omega
        show some _ = some (mmv s.H s.X s.P s.R s.n (mkRat a b) 0)
        rw [hn, mmvn (by decide), zv1]
        rfl
      · have hi : i < s.n := hi
        have hj : j < s.n := hj
        obtain rfl : i = 0 := by omega
        obtain rfl : j = 0 := by omega
        show some _ = some (mcv s.H s.P s.R s.n (0 * s.n + 0))
        rw [hn, mcvn (by decide) (by decide)]
      · show some _ = some (zv s.H s.X s.n (mkRat a b) 0)
        rw [hn, zv1]
        rfl
      · show some _ = some (sv s.H s.P s.R s.n)
        rw [hn]
      · have hi : i < s.n := hi
        obtain rfl : i = 0 := by omega
        show some _ = some (kv s.H s.P s.R s.n 0)
        rw [hn, kvn (by decide)]
  · rw [hn] at rX rP rW q1 q2 q3 szS kk1 kkr hpsd ⊢
    have sym := (hpsd.2 rfl).1
    have f0 : FS pi le sg (lk [(0, some (s.X 0)), (1, some (s.X 1)), (2, some (s.P 0)), (3, some (s.P 1)), (4, some (s.P 2)), (5, some (s.P 3)), (6, Q 6), (7, Q 7), (8, Q 8), (9, Q 9)]) := hF.lk ⟨q1 0 (by decide), q1 1 (by decide), q2 0 0 (by decide) (by decide), q2 0 1 (by decide) (by decide), q2 1 0 (by decide) (by decide), q2 1 1 (by decide) (by decide), rfl, rfl, rfl, rfl, trivial⟩
    have eg0 : mkRat 0 1 + s.P 0 * md s.an s.ad 5 0 0 + s.P 1 * md s.an s.ad 5 1 0 = hpv s.H s.P 2 0 := by rw [hpv20 sym]; rfl
    have eg1 : mkRat 0 1 + s.P 2 * md s.an s.ad 5 0 0 + s.P 3 * md s.an s.ad 5 1 0 = hpv s.H s.P 2 1 := by rw [hpv21 sym]; rfl
    have es : md s.an s.ad 6 0 0 + md s.an s.ad 5 0 0 * hpv s.H s.P 2 0 + md s.an s.ad 5 1 0 * hpv s.H s.P 2 1 = sv s.H s.P s.R 2 := by rw [sv2]; rfl
    refine sp_variance2 hM f0 (rp_sz rX (by omega) (by decide)) (rp_sz rX (by omega) (by decide)) (rp_sz rP (by omega) (by decide)) (rp_sz rP (by omega) (by decide)) (rp_sz rP (by omega) (by decide)) (rp_sz rP (by omega) (by decide)) (fun pi' le' sg' wo' h0 h => ⟨fun z => absurd rfl z, fun _ => ⟨fun z => absurd z (by decide), fun _ => ?_⟩⟩) (fun pi' le' sg' wo' h0 h => ⟨fun _ => ⟨fun _ => ?_, fun z => absurd rfl z⟩, fun z => absurd z (by decide)⟩)
    · rw [eg0, eg1, es] at h0
      refine kkr h0 _ _ _ _ _ h (fun _ => ⟨fun i hi => ?_, fun i j hi hj => ?_, fun hm => ?_⟩)
      · obtain rfl | rfl : i = 0 ∨ i = 1 := by omega
        · rfl
        · rfl
      · rw [hn]
        obtain rfl | rfl : i = 0 ∨ i = 1 := by omega
        · obtain rfl | rfl : j = 0 ∨ j = 1 := by omega
          · rfl
          · rfl
        · obtain rfl | rfl : j = 0 ∨ j = 1 := by omega
          · rfl
          · rfl
      · obtain ⟨z1, z2, z3⟩ := q3 hm
        refine ⟨z1, z2, fun i hi => ?_⟩
        obtain rfl | rfl : i = 0 ∨ i = 1 := by omega
        · exact z3 0 (by decide)
        · exact z3 1 (by decide)
    · rw [eg0, eg1, es] at h0
      rw [eg0, eg1, es] at h
      rw [nI_1]
      refine sp_doMeasure2 hM h (rp_sz rX (by omega) (by decide)) (rp_sz rX (by omega) (by decide)) (rp_sz rP (by omega) (by decide)) (rp_sz rP (by omega) (by decide)) (rp_sz rP (by omega) (by decide)) (rp_sz rP (by omega) (by decide)) (rp_sz rW (by omega) (by decide)) (rp_sz rW (by omega) (by decide)) szS h0 f3 (by omega) f5 (fun pi' le' sg' wo' h => kk1 h0 _ _ _ _ _ h (fun _ => ⟨fun i hi => ?_, fun i j hi hj => ?_, fun hm => ⟨?_, ?_, fun i hi => ?_⟩⟩))
      · have hi : i < s.n := hi
        show _ = some (mmv s.H s.X s.P s.R s.n (mkRat a b) i)
        rw [hn, mmvn (by omega), zv2]
        obtain rfl | rfl : i = 0 ∨ i = 1 := by omega
        · rfl
        · rfl
      · have hi : i < s.n := hi
        have hj : j < s.n := hj
        show _ = some (mcv s.H s.P s.R s.n (i * s.n + j))
        rw [hn, mcvn (by omega) (by omega)]
        obtain rfl | rfl : i = 0 ∨ i = 1 := by omega
        · obtain rfl | rfl : j = 0 ∨ j = 1 := by omega
          · rfl
          · rfl
        · obtain rfl | rfl : j = 0 ∨ j = 1 := by omega
          · rfl
          · rfl
      · show some _ = some (zv s.H s.X s.n (mkRat a b) 0)
        rw [hn, zv2]
        rfl
      · show some _ = some (sv s.H s.P s.R s.n)
        rw [hn]
      · have hi : i < s.n := hi
        show _ = some (kv s.H s.P s.R s.n i)
        rw [hn, kvn (by omega)]
        obtain rfl | rfl : i = 0 ∨ i = 1 := by omega
        · rfl
        · rfl
