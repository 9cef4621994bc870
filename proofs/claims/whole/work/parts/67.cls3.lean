/-! ===== the class's methods over its state: measure (own work) ===== -/
theorem tq_isNothing {G : Nat → Prop} {h : xH} {t q r c b : Nat} {v : Nat → Rat} {post : Int32 → Prop} (T : Tq G h t q r c v b) (hrc : 0 < r * c) (hrc2 : r * c ≤ 4) (k1 : v 0 = 0 → post 1) (k0 : v 0 ≠ 0 → post 0) : wp_X4_isNothing h t post := by
  obtain ⟨z, D, A1, A2, A3, A4⟩ := T
  rw [(A4 0 hrc).2] at k1 k0
  exact st_isNothing A1 hrc hrc2 (fun e => k1 ((rq_z0 A2).mpr e)) (fun e => k0 (fun w => e ((rq_z0 A2).mp w)))
theorem TS.congr {G : Nat → Prop} {V : vT} {h : xH} {t r c b : Nat} {v v' : Nat → Rat} (T : TS G V h t r c v b) (hv : ∀ x, x < r * c → v' x = v x) : TS G V h t r c v' b := by
  obtain ⟨q, z, D, h1, h2, h3, h4, h5⟩ := T
  exact ⟨q, z, D, h1, h2, h3, h4, fun x hx => ⟨(h5 x hx).1, by rw [hv x hx, (h5 x hx).2]⟩⟩
theorem CI.ext {κ : Nat → Option Nat} {V : vT} {S : Nat → Prop} {h h' : xH} {x1 : Nat} {s : AS} (C : CI κ V S h x1 s) (e : Ext h h') : CI κ V S h' x1 s := by
  have hl := C.left e.mv
  obtain ⟨c1, c2, c3, mo, t0, t1, t2, t3, t4, c4, c5, c6, c7⟩ := C
  exact ⟨fun b hb => c1 b (e.none hb), fun b hb => ⟨(c2 b hb).1, by rw [hl b hb]; exact (c2 b hb).2⟩, c3.ext e, mo, t0, t1, t2, t3, t4, e _ _ c4, c5.ext e, fun z => ⟨(c6 z).1.mv e.mv, (c6 z).2.mv e.mv⟩, fun z z' => ⟨(c7 z z').1.mv e.mv, (c7 z z').2.1.mv e.mv, (c7 z z').2.2.mv e.mv⟩⟩
theorem c_measure {κ : Nat → Option Nat} {V : vT} {S : Nat → Prop} {h : xH} {x1 mc ms : Nat} {y1 y2 : Int32} {s : AS} {post : Int32 → xH → Prop} {postx : String → xH → Prop} (C : CI κ V S h x1 s) (ok : s.ok) (hmc : 200 ≤ mc) (hms : 3900 ≤ ms)
    (k1 : ∀ a b, isFr y1 y2 a b → s.sd = 1 → fitP 1 6 s.an s.ad → s.m < 3 → sv s.H s.P s.R s.n ≠ 0 → 600 ≤ mc ∧ 34500 ≤ ms ∧ ∀ V' h', CI κ V' S h' x1 (sMeas s (mkRat a b)) → (∀ b, S b → h' b = h b) → post (nI (s.m + 1)) h')
    (ka : (¬ ∃ a b, isFr y1 y2 a b) → postx EIA h)
    (ks : (∃ a b, isFr y1 y2 a b) → ¬ (s.sd = 1 ∧ fitP 1 6 s.an s.ad ∧ s.m < 3) → postx EIS h)
    (kr : (∃ a b, isFr y1 y2 a b) → s.sd = 1 → fitP 1 6 s.an s.ad → s.m < 3 → sv s.H s.P s.R s.n = 0 → ∀ h', CI κ V S h' x1 s → (∀ b, S b → h' b = h b) → postx EAR h') : wp_X6_measure h mc ms x1 y1 y2 post postx := by
  obtain ⟨n1, n2, o3, o4, o5, o6, o7, o8, o9⟩ := ok
  have C' := C
  obtain ⟨c1, c2, c3, mo, t0, t1, t2, t3, t4, c4, c5, c6, c7⟩ := C'
  have M' := c5
  obtain ⟨ps, fp, a1, -⟩ := M'
  refine c_isFr (fun a b hab => ⟨fun _ => ?_, fun z => absurd z (by decide)⟩) (fun hf => ⟨fun z => absurd rfl z, fun _ => ⟨by omega, by omega, ka hf⟩⟩)
  have hth : ¬ (s.sd = 1 ∧ fitP 1 6 s.an s.ad ∧ s.m < 3) → wj_X6_measure_43 post postx h mc ms := fun z => ⟨by omega, by omega, ks ⟨a, b, hab⟩ z⟩
  refine ⟨_, c4, _, rfl, fun hz => hth (fun z => ?_), fun hz => ⟨_, rfl, _, a1, sm_isFit (k := 6) c5 n1 n2 (Or.inr (Or.inr rfl)) (fun x hx => ⟨(o7 x hx).1, (o7 x hx).2.2⟩) (fun hf => ⟨fun z => absurd z (by decide), fun _ => ⟨_, rfl, fun hlt => ?_, fun hlt => hth (fun z => hlt ?_)⟩⟩) (fun hf => ⟨fun _ => hth (fun z => hf z.2.1), fun z => absurd rfl z⟩)⟩⟩
  · rw [z.1] at hz
    exact absurd hz (by decide)
  · rw [show (3 : Int32) = nI 3 from rfl, nI_ltI (by omega) (by decide)] at hlt
    have hf : fitP 1 6 s.an s.ad := hf
    have sd1 : s.sd = 1 := by
      rcases (show s.sd = 0 ∨ s.sd = 1 by omega) with z | z
      · rw [z] at hz
        exact absurd rfl hz
      · exact z
    obtain ⟨b1, b2, b3, b4⟩ := bits_meas s.p (by omega) s.m hlt
    obtain ⟨rX, rP, hpsd⟩ := o9 sd1
    obtain ⟨eA, eB, f3, f4, f5⟩ := id hab
    have r0 : RB κ V h h x1 _ := ⟨Mv.rf h, fun b hb => hb, c3, c4⟩
    obtain ⟨TX, TP⟩ := c6 sd1
    refine ⟨13, 48, by omega, by omega, tq_table (k := 5) (G := Gk κ) c5 n1 n2 (by decide) o7 c1 (Nat.le_refl _) (Nat.le_refl _) (fun tH h56 qH x56 _ TH _ _ => ?_)⟩
    have TH : Tq (Gk κ) h56 tH qH s.n 1 s.H 9 := TH
    have r1 := r0.ext x56
    obtain ⟨fH, oH⟩ := TH.ob
    refine ⟨_, oH, 3, 13, by omega, by omega, tq_turned TH (by decide) n2 (Nat.le_refl _) (Nat.le_refl _) (fun th h61 qh x61 _ Th _ _ => ?_)⟩
    have r2 := r1.ext x61
    have TH2 := TH.ext x61
    have TP2 := (TP.mv x56.mv).mv x61.mv
    obtain ⟨qP, QP⟩ := TP2.tq
    obtain ⟨fh, oh⟩ := Th.ob
    refine ⟨_, r2.2.2.2, _, rfl, _, oh, 29, 13 * 80 + 13, by omega, by omega, tq_times (u := 80) Th QP n1 n2 n2 (by decide) (by omega) (by omega) (fun q hq => c1 q (r2.2.1 q hq)) (Nat.le_refl _) (Nat.le_refl _) (fun tW h72 qW x72 _ TW _ _ => ?_)⟩
    have TW : Tq (Gk κ) h72 tW qW 1 s.n (hpv s.H s.P s.n) (9 + Bb s.p s.m + 1) := TW
    have r3 := r2.ext x72
    have TH3 := TH2.ext x72
    obtain ⟨fW, oW⟩ := TW.ob
    refine ⟨_, oW, 29, 13 * 80 + 13, by omega, by omega, tq_times (u := 80) TW TH3 n1 n2 (by decide) (by decide) (by omega) (by omega) (fun q hq => c1 q (r3.2.1 q hq)) (Nat.le_refl _) (Nat.le_refl _) (fun tN h80 qN x80 _ TN _ _ => ?_)⟩
    have r4 := r3.ext x80
    have M4 := (((c5.ext x56).ext x61).ext x72).ext x80
    have M4' := M4
    obtain ⟨ps4, fp4, a4, -⟩ := M4'
    refine ⟨_, r4.2.2.2, _, rfl, _, a4, 13, 48, by omega, by omega, tq_table (k := 6) (G := Gk κ) M4 n1 n2 (by decide) o7 (fun q hq => c1 q (r4.2.1 q hq)) (Nat.le_refl _) (Nat.le_refl _) (fun tR h89 qR x89 _ TR _ _ => ?_)⟩
    have TR : Tq (Gk κ) h89 tR qR 1 1 s.R 5 := TR
    have r5 := r4.ext x89
    have TN5 := TN.ext x89
    obtain ⟨fN, oN⟩ := TN5.ob
    refine ⟨_, oN, 47, 19 * 80 + 13, by omega, by omega, tq_plus (u := 80) TN5 TR (by decide) (by omega) (by omega) (fun q hq => c1 q (r5.2.1 q hq)) (Nat.le_refl _) (Nat.le_refl _) (fun tS h92 qS x92 nS TS' nqS eqS => ?_)⟩
    have r6 := r5.ext x92
    obtain ⟨fS, oS⟩ := TS'.ob
    have xx : Ext h h92 := ((((x56.tr x61).tr x72).tr x80).tr x89).tr x92
    refine ⟨_, oS, tq_isNothing TS' (by decide) (by decide) (fun hv => ⟨fun z => absurd z (by decide), fun _ => ⟨by omega, by omega, kr ⟨a, b, hab⟩ sd1 hf hlt hv h92 (C.ext xx) (C.left xx.mv)⟩⟩) (fun hv => ⟨fun _ => ?_, fun z => absurd rfl z⟩)⟩
    have hv : sv s.H s.P s.R s.n ≠ 0 := hv
    obtain ⟨kmc, kms, k1⟩ := k1 a b hab sd1 hf hlt hv
    have hR0 : 0 ≤ s.R 0 := rq_nn0 hf.1
    have hpos : 0 < sv s.H s.P s.R s.n := by
      have := sv_nonneg (H := s.H) n1 n2 hpsd hR0
      grind
    obtain ⟨rpX, rpP⟩ := rp_measure (a := a) (b := b) n1 n2 rX rP (by have := TH.rp; rw [Nat.mul_one] at this; exact this) TR.rp f3 f4 f5 hpos
    obtain ⟨V1, v1, T8, v3⟩ := TS'.keep eqS r6.2.2.1 (r5.2.2.1.none nqS)
    have r6 := r6.V v1
    have TX6 := v3 (TX.mv xx.mv)
    have TP6 := v3 (TP.mv xx.mv)
    have M6 := c5.ext xx
    have Th6 := (((Th.ext x72).ext x80).ext x89).ext x92
    have TW6 := ((TW.ext x80).ext x89).ext x92
    refine ⟨_, r6.2.2.2, (Nat.le_of_ble_eq_true rfl), fun h116 e116 => ?_⟩
    have m116 := st_mv r6.2.2.2 e116
    have r7 := r6.set e116
    rw [eA, eB]
    refine ⟨7, 21, by omega, by omega, tq_ofFraction f3 f4 f5 (fun q hq => c1 q (r7.2.1 q hq)) (Nat.le_refl _) (Nat.le_refl _) (fun tY h122 qY x122 _ TY _ _ => ?_)⟩
    have r8 := r7.ext x122
    have m122 : Mv h92 h122 := m116.tr x122.mv
    have TX8 := TX6.mv m122
    obtain ⟨qX, QX⟩ := TX8.tq
    have Th8 := Th6.mv m122
    obtain ⟨fh8, oh8⟩ := Th8.ob
    refine ⟨_, r8.2.2.2, _, rfl, _, oh8, 29, 13 * 80 + 13, by omega, by omega, tq_times (u := 80) Th8 QX n1 n2 (by decide) (by decide) (by omega) (by omega) (fun q hq => c1 q (r8.2.1 q hq)) (Nat.le_refl _) (Nat.le_refl _) (fun tI h131 qI x131 _ TI _ _ => ?_)⟩
    have r9 := r8.ext x131
    have TY9 := TY.ext x131
    obtain ⟨fY, oY⟩ := TY9.ob
    refine ⟨_, oY, 54, 19 * 80 + 38, by omega, by omega, tq_minus (u := 80) TY9 TI (by decide) (by omega) (by omega) (fun q hq => c1 q (r9.2.1 q hq)) (Nat.le_refl _) (Nat.le_refl _) (fun tZ h134 qZ x134 _ TZ nqZ eqZ => ?_)⟩
    have TZ : Tq (Gk κ) h134 tZ qZ 1 1 (zv s.H s.X s.n (mkRat a b)) (5 + (9 + Mb s.p s.m + 1) + 1) := TZ
    have r10 := r9.ext x134
    have m134 : Mv h92 h134 := (m122.tr x131.mv).tr x134.mv
    obtain ⟨V2, v1', T7, v3'⟩ := TZ.keep eqZ r10.2.2.1 (r9.2.2.1.none nqZ)
    have r10 := r10.V v1'
    have T8 := v3' (T8.mv m134)
    have TX10 := v3' (TX6.mv m134)
    have TP10 := v3' (TP6.mv m134)
    refine ⟨_, r10.2.2.2, (Nat.le_of_ble_eq_true rfl), fun h137 e137 => ?_⟩
    have m137 := st_mv r10.2.2.2 e137
    have r11 := r10.set e137
    have TW11 := (TW6.mv m134).mv m137
    have T7 := T7.mv m137
    have T8 := T8.mv m137
    have TX11 := TX10.mv m137
    have TP11 := TP10.mv m137
    obtain ⟨fW1, oW1⟩ := TW11.ob
    refine ⟨_, oW1, 3, 13, by omega, by omega, tq_turned TW11 n2 (by decide) (Nat.le_refl _) (Nat.le_refl _) (fun tw h143 qw x143 _ Tw _ _ => ?_)⟩
    have r12 := r11.ext x143
    obtain ⟨fw, ow⟩ := Tw.ob
    have TS12 := ((TS'.mv m134).mv m137).ext x143
    refine ⟨_, ow, 31, 11 * 150 + 13, by omega, by omega, tq_over (u := 150) Tw TS12 (by omega) hpos (by omega) (by omega) (fun q hq => c1 q (r12.2.1 q hq)) (Nat.le_refl _) (Nat.le_refl _) (fun tK h148 qK x148 _ TK nqK eqK => ?_)⟩
    have TK : Tq (Gk κ) h148 tK qK s.n 1 (kv s.H s.P s.R s.n) (9 + Bb s.p s.m + 1 + (9 + Bb s.p s.m + 1 + 9 + 1 + 5 + 1)) := TK
    have r13 := r12.ext x148
    obtain ⟨V3, u1, T9, u3⟩ := TK.keep eqK r13.2.2.1 (r12.2.2.1.none nqK)
    have r13 := r13.V u1
    have m148 : Mv h137 h148 := x143.mv.tr x148.mv
    have T7 := u3 (T7.mv m148)
    have T8 := u3 (T8.mv m148)
    have TX13 := u3 (TX11.mv m148)
    have TP13 := u3 (TP11.mv m148)
    refine ⟨_, r13.2.2.2, (Nat.le_of_ble_eq_true rfl), fun h151 e151 => ?_⟩
    have m151 := st_mv r13.2.2.2 e151
    have r14 := r13.set e151
    have TK14 := TK.mv m151
    have TZ14 := ((TZ.mv m137).mv m148).mv m151
    have TW14 := (TW11.mv m148).mv m151
    have T7 := T7.mv m151
    have T8 := T8.mv m151
    have T9 := T9.mv m151
    have TX14 := TX13.mv m151
    have TP14 := TP13.mv m151
    obtain ⟨fK, oK⟩ := TK14.ob
    refine ⟨_, rfl, _, rfl, _, rfl, _, oK, 29, 13 * 210 + 13, by omega, by omega, tq_times (u := 210) TK14 TZ14 (by decide) (by decide) (by decide) n2 (by omega) (by omega) (fun q hq => c1 q (r14.2.1 q hq)) (Nat.le_refl _) (Nat.le_refl _) (fun tJ h167 qJ x167 _ TJ _ _ => ?_)⟩
    have r15 := r14.ext x167
    have TX15 := TX14.mv x167.mv
    obtain ⟨qX', QX'⟩ := TX15.tq
    obtain ⟨fX, oX⟩ := QX'.ob
    refine ⟨_, oX, 47, 19 * 270 + 13, by omega, by omega, tq_plus (u := 270) QX' TJ (by omega) (by omega) (by omega) (fun q hq => c1 q (r15.2.1 q hq)) (Nat.le_refl _) (Nat.le_refl _) (fun tL h170 qL x170 _ TL _ _ => ?_)⟩
    have TL : Tq (Gk κ) h170 tL qL s.n 1 (mmv s.H s.X s.P s.R s.n (mkRat a b)) (Mb s.p s.m + (9 + Bb s.p s.m + 1 + (9 + Bb s.p s.m + 1 + 9 + 1 + 5 + 1) + (5 + (9 + Mb s.p s.m + 1) + 1) + 1) + 1) := TL
    have r16 := r15.ext x170
    obtain ⟨fL, oL⟩ := TL.ob
    refine ⟨_, oL, 57, 18 * 270 + 13, by omega, by omega, tq_short (u := 270) TL (by rw [Nat.mul_one]; exact rpX) (by omega) (by omega) (by omega) (fun q hq => c1 q (r16.2.1 q hq)) (Nat.le_refl _) (Nat.le_refl _) (fun tM h173 qM x173 _ TM nqM eqM => ?_)⟩
    have r17 := r16.ext x173
    obtain ⟨V4, s1, T5, s3⟩ := TM.keep eqM r17.2.2.1 (r16.2.2.1.none nqM)
    have r17 := r17.V s1
    have m173 : Mv h151 h173 := (x167.mv.tr x170.mv).tr x173.mv
    have T7 := s3 (T7.mv m173)
    have T8 := s3 (T8.mv m173)
    have T9 := s3 (T9.mv m173)
    have TP17 := s3 (TP14.mv m173)
    refine ⟨_, r17.2.2.2, (Nat.le_of_ble_eq_true rfl), fun h176 e176 => ?_⟩
    have m176 := st_mv r17.2.2.2 e176
    have r18 := r17.set e176
    have T5 := T5.mv m176
    have T7 := T7.mv m176
    have T8 := T8.mv m176
    have T9 := T9.mv m176
    have TP18 := TP17.mv m176
    have TK18 := (TK14.mv m173).mv m176
    have TW18 := (TW14.mv m173).mv m176
    obtain ⟨fK', oK'⟩ := TK18.ob
    refine ⟨_, rfl, _, rfl, _, oK', 29, 13 * 220 + 13, by omega, by omega, tq_times (u := 220) TK18 TW18 (by decide) (by decide) n2 n2 (by omega) (by omega) (fun q hq => c1 q (r18.2.1 q hq)) (Nat.le_refl _) (Nat.le_refl _) (fun tO h190 qO x190 _ TO _ _ => ?_)⟩
    have r19 := r18.ext x190
    have TP19 := TP18.mv x190.mv
    obtain ⟨qP', QP'⟩ := TP19.tq
    obtain ⟨fP, oP⟩ := QP'.ob
    refine ⟨_, oP, 54, 19 * 285 + 38, by omega, by omega, tq_minus (u := 285) QP' TO (ixb n2 n2) (by omega) (by omega) (fun q hq => c1 q (r19.2.1 q hq)) (Nat.le_refl _) (Nat.le_refl _) (fun tD h193 qD x193 _ TD _ _ => ?_)⟩
    have TD : Tq (Gk κ) h193 tD qD s.n s.n (mcv s.H s.P s.R s.n) (Bb s.p s.m + (9 + Bb s.p s.m + 1 + (9 + Bb s.p s.m + 1 + 9 + 1 + 5 + 1) + (9 + Bb s.p s.m + 1) + 1) + 1) := TD
    have r20 := r19.ext x193
    obtain ⟨fD, oD⟩ := TD.ob
    refine ⟨_, oD, 57, 18 * 285 + 13, by omega, by omega, tq_short (u := 285) TD rpP (ixb n2 n2) (by omega) (by omega) (fun q hq => c1 q (r20.2.1 q hq)) (Nat.le_refl _) (Nat.le_refl _) (fun tE h196 qE x196 _ TE nqE eqE => ?_)⟩
    have r21 := r20.ext x196
    obtain ⟨V5, q1, T6, q3⟩ := TE.keep eqE r21.2.2.1 (r20.2.2.1.none nqE)
    have r21 := r21.V q1
    have m196 : Mv h176 h196 := (x190.mv.tr x193.mv).tr x196.mv
    have T5 := q3 (T5.mv m196)
    have T7 := q3 (T7.mv m196)
    have T8 := q3 (T8.mv m196)
    have T9 := q3 (T9.mv m196)
    refine ⟨_, r21.2.2.2, (Nat.le_of_ble_eq_true rfl), fun h199 e199 => ⟨_, rfl, (Nat.le_of_ble_eq_true rfl), fun h209 e209 => ⟨_, rfl, ?_⟩⟩⟩
    have r22 := r21.set e199
    have r23 := r22.set e209
    have mm : Mv h196 h209 := (st_mv r21.2.2.2 e199).tr (st_mv r22.2.2.2 e209)
    have hl := C.left r23.1
    have MM : Mo κ h209 mo s.n s.an s.ad := c5.mv ((((((((xx.mv.tr m134).tr m137).tr m148).tr m151).tr m173).tr m176).tr m196).tr mm)
    have T8x : TS (Gk κ) V5 h209 tS 1 1 (sMeas s (mkRat a b)).S _ := (T8.mv mm).congr (fun x (hx : x < 1 * 1) => by
      obtain rfl : x = 0 := by omega
      rfl)
    rw [nI_1]
    refine k1 V5 h209 ⟨fun b hb => c1 b (r23.2.1 b hb), fun b hb => ⟨(c2 b hb).1, by rw [hl b hb]; exact (c2 b hb).2⟩, r23.2.2.1, mo, tM, tE, tZ, tS, tK, ?_, MM, fun _ => ⟨(T5.mv mm).mono b1, (T6.mv mm).mono b2⟩, fun _ _ => ⟨(T7.mv mm).mono (by omega), T8x.mono (by omega), (T9.mv mm).mono (by omega)⟩⟩ hl
    rw [r23.2.2.2]
    show some (Sum.inr (6, [Value.ref mo, .int (nI s.ss), .int (nI s.sd), .int (nI s.p), .int (nI s.m + 1), .ref tM, .ref tE, .ref tZ, .ref tS, .ref tK])) = _
    rw [nI_1]
    rfl
  · rw [show (3 : Int32) = nI 3 from rfl, nI_ltI (by omega) (by decide)]
    exact z.2.2
