/-! ===== the class's methods over its state: predict, measure (own work) ===== -/
theorem bits_pred : ∀ p, p < 4 → ∀ m, m < 4 → Mb p m + 29 ≤ Mb (p + 1) m ∧ Bb p m + 57 ≤ Bb (p + 1) m ∧ Mb p m ≤ 1700 ∧ Bb p m ≤ 1701 := by decide
theorem bits_meas : ∀ p, p < 5 → ∀ m, m < 3 → Mb p m + Bb p m + 32 ≤ Mb p (m + 1) ∧ 2 * Bb p m + 27 ≤ Bb p (m + 1) ∧ Mb p m ≤ 954 ∧ Bb p m ≤ 1065 := by decide
theorem bits_all : ∀ p, p < 5 → ∀ m, m < 4 → Mb p m ≤ 2560 ∧ Bb p m ≤ 2560 := by decide
theorem c_predict {κ : Nat → Option Nat} {V : vT} {S : Nat → Prop} {h : xH} {x1 mc ms : Nat} {s : AS} {post : Int32 → xH → Prop} {postx : String → xH → Prop} (C : CI κ V S h x1 s) (ok : s.ok) (hmc : 1 ≤ mc) (hms : 6 ≤ ms)
    (k1 : s.sd = 1 → fitP s.n 4 s.an s.ad → s.p < 4 → 300 ≤ mc ∧ 11000 ≤ ms ∧ ∀ V' h', CI κ V' S h' x1 (sPred s) → (∀ b, S b → h' b = h b) → post (nI (s.p + 1)) h')
    (k0 : ¬ (s.sd = 1 ∧ fitP s.n 4 s.an s.ad ∧ s.p < 4) → postx EIS h) : wp_X6_predict h mc ms x1 post postx := by
  obtain ⟨n1, n2, o3, o4, o5, o6, o7, -⟩ := ok
  have C' := C
  obtain ⟨c1, c2, c3, mo, t0, t1, t2, t3, t4, c4, c5, c6, c7⟩ := C'
  have M' := c5
  obtain ⟨ps, fp, a1, -⟩ := M'
  have hth : postx EIS h → wj_X6_predict_26 post postx h mc ms := fun z => ⟨by omega, by omega, z⟩
  refine ⟨_, c4, _, rfl, fun hz => hth (k0 (fun z => ?_)), fun hz => ⟨_, rfl, _, a1, sm_isFit (k := 4) c5 n1 n2 (Or.inr (Or.inl rfl)) (fun x hx => ⟨(o7 x hx).1, (o7 x hx).2.2⟩) (fun hf => ⟨fun z => absurd z (by decide), fun _ => ⟨_, rfl, fun hlt => ?_, fun hlt => hth (k0 (fun z => hlt ?_))⟩⟩) (fun hf => ⟨fun _ => hth (k0 (fun z => hf z.2.1)), fun z => absurd rfl z⟩)⟩⟩
  · rw [z.1] at hz
    exact absurd hz (by decide)
  · rw [show (4 : Int32) = nI 4 from rfl, nI_ltI (by omega) (by decide)] at hlt
    have sd1 : s.sd = 1 := by
      rcases (show s.sd = 0 ∨ s.sd = 1 by omega) with z | z
      · rw [z] at hz
        exact absurd rfl hz
      · exact z
    obtain ⟨kmc, kms, k1⟩ := k1 sd1 hf hlt
    obtain ⟨b1, b2, b3, b4⟩ := bits_pred s.p hlt s.m (by omega)
    have r0 : RB κ V h h x1 _ := ⟨Mv.rf h, fun b hb => hb, c3, c4⟩
    obtain ⟨TX, TP⟩ := c6 sd1
    refine ⟨13, 48, by omega, by omega, tq_table (k := 2) (G := Gk κ) c5 n1 n2 (by decide) o7 c1 (Nat.le_refl _) (Nat.le_refl _) (fun tF h39 qF x39 _ TF _ _ => ?_)⟩
    have TF : Tq (Gk κ) h39 tF qF s.n s.n (pv s.an s.ad s.n 2) 18 := TF
    have r1 := r0.ext x39
    have M1 := c5.ext x39
    have TX1 := TX.mv x39.mv
    have TP1 := TP.mv x39.mv
    obtain ⟨qX, QX⟩ := TX1.tq
    obtain ⟨fF, oF⟩ := TF.ob
    refine ⟨_, r1.2.2.2, _, rfl, _, oF, 29, 13 * 130 + 13, by omega, by omega, tq_times (u := 130) TF QX n1 n2 (by decide) n2 (by omega) (by omega) (fun q hq => c1 q (r1.2.1 q hq)) (Nat.le_refl _) (Nat.le_refl _) (fun tA h49 qA x49 _ TA _ _ => ?_)⟩
    have r2 := r1.ext x49
    have M2 := M1.ext x49
    have TX2 := TX1.mv x49.mv
    have TP2 := TP1.mv x49.mv
    have TF2 := TF.ext x49
    have M2' := M2
    obtain ⟨ps2, fp2, a2, -⟩ := M2'
    refine ⟨_, r2.2.2.2, _, rfl, _, a2, 13, 48, by omega, by omega, tq_table (k := 3) (G := Gk κ) M2 n1 n2 (by decide) o7 (fun q hq => c1 q (r2.2.1 q hq)) (Nat.le_refl _) (Nat.le_refl _) (fun tU h57 qU x57 _ TU _ _ => ?_)⟩
    have TU : Tq (Gk κ) h57 tU qU s.n 1 (pv s.an s.ad 1 3) 9 := TU
    have r3 := r2.ext x57
    have M3 := M2.ext x57
    have TX3 := TX2.mv x57.mv
    have TP3 := TP2.mv x57.mv
    have TF3 := TF2.ext x57
    have TA3 := TA.ext x57
    obtain ⟨fA, oA⟩ := TA3.ob
    refine ⟨_, oA, 47, 19 * 130 + 13, by omega, by omega, tq_plus (u := 130) TA3 TU (by omega) (by omega) (by omega) (fun q hq => c1 q (r3.2.1 q hq)) (Nat.le_refl _) (Nat.le_refl _) (fun tM h60 qM x60 nM TM nqM eqM => ?_)⟩
    have r4 := r3.ext x60
    have M4 := M3.ext x60
    have TP4 := TP3.mv x60.mv
    have TF4 := TF3.ext x60
    obtain ⟨V1, v1, v2, v3⟩ := TM.keep eqM r4.2.2.1 (r3.2.2.1.none nqM)
    have r4 := r4.V v1
    have TP4 := v3 TP4
    refine ⟨_, r4.2.2.2, (Nat.le_of_ble_eq_true rfl), fun h63 e63 => ?_⟩
    have m63 := st_mv r4.2.2.2 e63
    have r5 := r4.set e63
    have M5 := M4.mv m63
    have TP5 := TP4.mv m63
    have TF5 := TF4.mv m63
    have TM5 := v2.mv m63
    obtain ⟨fF5, oF5⟩ := TF5.ob
    obtain ⟨qP, QP⟩ := TP5.tq
    refine ⟨_, rfl, _, oF5, 29, 13 * 130 + 13, by omega, by omega, tq_times (u := 130) TF5 QP n1 n2 n2 n2 (by omega) (by omega) (fun q hq => c1 q (r5.2.1 q hq)) (Nat.le_refl _) (Nat.le_refl _) (fun tB h72 qB x72 _ TB _ _ => ?_)⟩
    have r6 := r5.ext x72
    have M6 := M5.ext x72
    have TF6 := TF5.ext x72
    have TM6 := TM5.mv x72.mv
    obtain ⟨fF6, oF6⟩ := TF6.ob
    refine ⟨_, oF6, 3, 13, by omega, by omega, tq_turned TF6 n2 n2 (Nat.le_refl _) (Nat.le_refl _) (fun tG h76 qG x76 _ TG _ _ => ?_)⟩
    have r7 := r6.ext x76
    have M7 := M6.ext x76
    have TM7 := TM6.mv x76.mv
    have TB7 := TB.ext x76
    obtain ⟨fB, oB⟩ := TB7.ob
    refine ⟨_, oB, 29, 13 * 130 + 13, by omega, by omega, tq_times (u := 130) TB7 TG n1 n2 n2 n2 (by omega) (by omega) (fun q hq => c1 q (r7.2.1 q hq)) (Nat.le_refl _) (Nat.le_refl _) (fun tD h79 qD x79 _ TD _ _ => ?_)⟩
    have r8 := r7.ext x79
    have M8 := M7.ext x79
    have TM8 := TM7.mv x79.mv
    have M8' := M8
    obtain ⟨ps8, fp8, a8, -⟩ := M8'
    refine ⟨_, r8.2.2.2, _, rfl, _, a8, 13, 48, by omega, by omega, tq_table (k := 4) (G := Gk κ) M8 n1 n2 (by decide) o7 (fun q hq => c1 q (r8.2.1 q hq)) (Nat.le_refl _) (Nat.le_refl _) (fun tQ h87 qQ x87 _ TQ _ _ => ?_)⟩
    have TQ : Tq (Gk κ) h87 tQ qQ s.n s.n (pv s.an s.ad s.n 4) 18 := TQ
    have r9 := r8.ext x87
    have M9 := M8.ext x87
    have TM9 := TM8.mv x87.mv
    have TD9 := TD.ext x87
    obtain ⟨fD, oD⟩ := TD9.ob
    refine ⟨_, oD, 47, 19 * 130 + 13, by omega, by omega, tq_plus (u := 130) TD9 TQ (ixb n2 n2) (by omega) (by omega) (fun q hq => c1 q (r9.2.1 q hq)) (Nat.le_refl _) (Nat.le_refl _) (fun tE h90 qE x90 nE TE nqE eqE => ?_)⟩
    have r10 := r9.ext x90
    have M10 := M9.ext x90
    have TM10 := TM9.mv x90.mv
    obtain ⟨V2, w1, w2, w3⟩ := TE.keep eqE r10.2.2.1 (r9.2.2.1.none nqE)
    have r10 := r10.V w1
    have TM10 := w3 TM10
    refine ⟨_, r10.2.2.2, (Nat.le_of_ble_eq_true rfl), fun h93 e93 => ⟨_, rfl, (Nat.le_of_ble_eq_true rfl), fun h103 e103 => ⟨_, rfl, ?_⟩⟩⟩
    have r11 := r10.set e93
    have r12 := r11.set e103
    have mm : Mv h90 h103 := (st_mv r10.2.2.2 e93).tr (st_mv r11.2.2.2 e103)
    have hl := C.left r12.1
    rw [nI_1]
    refine k1 V2 h103 ⟨fun b hb => c1 b (r12.2.1 b hb), fun b hb => ⟨(c2 b hb).1, by rw [hl b hb]; exact (c2 b hb).2⟩, r12.2.2.1, mo, tM, tE, t2, t3, t4, ?_, M10.mv mm, fun _ => ⟨(TM10.mv mm).mono ?_, (w2.mv mm).mono ?_⟩, fun z z' => ?_⟩ hl
    · rw [r12.2.2.2]
      show some (Sum.inr (6, [Value.ref mo, .int (nI s.ss), .int (nI s.sd), .int (nI s.p + 1), .int (nI s.m), .ref tM, .ref tE, .ref t2, .ref t3, .ref t4])) = _
      rw [nI_1]
      rfl
    · show 18 + Mb s.p s.m + 1 + 9 + 1 ≤ Mb (s.p + 1) s.m
      omega
    · show 18 + Bb s.p s.m + 1 + 18 + 1 + 18 + 1 ≤ Bb (s.p + 1) s.m
      omega
    · obtain ⟨d1, d2, d3⟩ := c7 sd1 z'
      have all : ∀ {t r c b : Nat} {v : Nat → Rat}, TS (Gk κ) V h t r c v b → TS (Gk κ) V2 h103 t r c v b := fun T => (w3 ((v3 ((((T.mv x39.mv).mv x49.mv).mv x57.mv).mv x60.mv)).mv m63 |>.mv x72.mv |>.mv x76.mv |>.mv x79.mv |>.mv x87.mv |>.mv x90.mv)).mv mm
      exact ⟨all d1, all d2, all d3⟩
  · rw [show (4 : Int32) = nI 4 from rfl, nI_ltI (by omega) (by decide)]
    exact z.2.2
