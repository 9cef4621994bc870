/-! ===== the class's methods over its state: what is asked (own work) ===== -/
theorem sw_digit' {G : Nat → Prop} {h : xH} {a i : Nat} {z : Int} {post : Int32 → Prop} (x : Wh G h a z) (hi : i < 2147483648) (k : post (nI (dg z.natAbs i))) : wp_X5_digit h a (nI i) post := by
  obtain ⟨d, n, h1, ⟨f, h2, h3⟩, h4, h5, -⟩ := x
  refine ⟨fun hc => absurd hc (nI_pos (by omega)), fun _ => ⟨_, h1, _, rfl, fun hc => ?_, fun hc => ⟨_, rfl, _, _, h2, ?_⟩⟩⟩
  · rw [nI_leI (by omega) (by omega)] at hc
    rw [dg_ge_ln hc] at k
    exact k
  · rw [nI_leI (by omega) (by omega)] at hc
    refine ⟨vp_in_nI (by omega) (by omega), ?_⟩
    rw [nI_clamp (by omega), h3 i (by omega)]
    exact k
def AS.rv (s : AS) (w : Nat) : Nat := if w = 2 ∨ w = 3 then 1 else s.n
def AS.cv (s : AS) (w : Nat) : Nat := if w = 1 then s.n else 1
def AS.vf (s : AS) (w : Nat) : Nat → Rat := match w with
  | 0 => s.X
  | 1 => s.P
  | 2 => s.Z
  | 3 => s.S
  | _ => s.K
def AS.val (s : AS) (w i j : Nat) : Rat := s.vf w (i * s.cv w + j)
def askS (s : AS) (y : Int32) : Prop := s.sd = 0 ∨ (s.m = 0 ∧ 2 ≤ y.toInt ∧ y.toInt ≤ 4)
def askV (s : AS) (y1 y2 y3 : Int32) (w i j : Nat) : Prop := y1 = nI w ∧ y2 = nI i ∧ y3 = nI j ∧ w ≤ 4 ∧ i < s.rv w ∧ j < s.cv w
theorem CI.mv' {κ : Nat → Option Nat} {V : vT} {S : Nat → Prop} {h h' : xH} {x1 : Nat} {s : AS} (C : CI κ V S h x1 s) (e : Mv h h') (hn : ∀ b, h' b = none → h b = none) (hV : VK (Gk κ) V h') (ho : h' x1 = h x1) : CI κ V S h' x1 s := by
  have hl := C.left e
  obtain ⟨c1, c2, c3, mo, t0, t1, t2, t3, t4, c4, c5, c6, c7⟩ := C
  exact ⟨fun b hb => c1 b (hn b hb), fun b hb => ⟨(c2 b hb).1, by rw [hl b hb]; exact (c2 b hb).2⟩, hV, mo, t0, t1, t2, t3, t4, ho.trans c4, c5.mv e, fun z => ⟨(c6 z).1.mv e, (c6 z).2.mv e⟩, fun z z' => ⟨(c7 z z').1.mv e, (c7 z z').2.1.mv e, (c7 z z').2.2.mv e⟩⟩
theorem c_num44 {κ : Nat → Option Nat} {V : vT} {S : Nat → Prop} {h : xH} {x1 mc ms t r c : Nat} {y1 y2 y3 : Int32} {v : Nat → Rat} {s : AS} {post : Nat → xH → Prop} {postx : String → xH → Prop} (C : CI κ V S h x1 s) (hT : ∀ post' : Nat → Prop, post' t → wp_X6_tableOf h x1 y1 post') (T : TS (Gk κ) V h t r c v 2560) (hr : r ≤ 2) (hc : c ≤ 2) (hy : ¬ y1 < 0) (hy4 : ¬ 4 < y1) (hmc : 1 ≤ mc) (hms : 6 ≤ ms)
    (k1 : ∀ i j, y2 = nI i → y3 = nI j → i < r → j < c → ∀ fr h', CI κ V S h' x1 s → (∀ b, S b → h' b = h b) → Fr (Gk κ) h' fr (v (i * c + j)) → post fr h')
    (k0 : (∀ i j, y2 = nI i → y3 = nI j → i < r → ¬ j < c) → postx EIA h) : wj_X6_number_44 post postx h mc ms x1 y1 y2 y3 := by
  have C' := C
  obtain ⟨c1, c2, c3, mo, t0, t1, t2, t3, t4, c4, -⟩ := C'
  obtain ⟨q, z, D, T1, T2, T3, T4, T5⟩ := T
  have T' := T1
  obtain ⟨a, b, oT, -⟩ := T'
  refine ⟨fun z => absurd z hy, fun _ => ⟨fun z => absurd z hy4, fun _ => ⟨_, c4, hT _ ⟨_, oT, st_has T1 hr hc (fun i j e2 e3 hi hj => ⟨fun _ => hT _ ⟨_, oT, 1, 3, by omega, by omega, ?_⟩, fun z => absurd z (by decide)⟩) (fun hno => ⟨fun z => absurd rfl z, fun _ => ⟨by omega, by omega, k0 hno⟩⟩)⟩⟩⟩⟩
  rw [e2, e3]
  refine st_number T1 c3 T2 hr hc hi hj T3 (fun x hx => (T5 x hx).1) T4 (Nat.le_refl _) (Nat.le_refl _) (fun fr h' m1 m2 m3 m4 F => ?_)
  have C2 := C.mv' m1 m3 m4 ((m2 _ _ c4).trans c4.symm)
  refine k1 i j e2 e3 hi hj fr h' C2 (C.left m1) ?_
  rw [(T5 _ (ix' hi hj)).2]
  exact F
theorem c_number {κ : Nat → Option Nat} {V : vT} {S : Nat → Prop} {h : xH} {x1 mc ms : Nat} {y1 y2 y3 : Int32} {s : AS} {post : Nat → xH → Prop} {postx : String → xH → Prop} (C : CI κ V S h x1 s) (ok : s.ok) (hmc : 1 ≤ mc) (hms : 6 ≤ ms)
    (k1 : ¬ askS s y1 → ∀ w i j, askV s y1 y2 y3 w i j → ∀ fr h', CI κ V S h' x1 s → (∀ b, S b → h' b = h b) → Fr (Gk κ) h' fr (s.val w i j) → post fr h')
    (kS : askS s y1 → postx EIS h) (kA : ¬ askS s y1 → (¬ ∃ w i j, askV s y1 y2 y3 w i j) → postx EIA h) : wp_X6_number h mc ms x1 y1 y2 y3 post postx := by
  obtain ⟨n1, n2, o3, o4, o5, o6, -⟩ := ok
  have C' := C
  obtain ⟨c1, c2, c3, mo, t0, t1, t2, t3, t4, c4, c5, c6, c7⟩ := C'
  obtain ⟨z, rfl, hz⟩ := i32_rng y1
  have hzi : (iI z).toInt = z := iI_toInt hz.1 hz.2
  have hthS : askS s (iI z) → wj_X6_number_36 post postx h mc ms := fun w => ⟨by omega, by omega, kS w⟩
  have n44 : s.sd ≠ 0 → (s.m = 0 → ¬ (2 ≤ z ∧ z ≤ 4)) → wj_X6_number_44 post postx h mc ms x1 (iI z) y2 y3 := by
    intro hsd hm
    have hS : ¬ askS s (iI z) := by
      rintro (w | ⟨w1, w2, w3⟩)
      · exact hsd w
      · rw [hzi] at w2 w3
        exact hm w1 ⟨w2, w3⟩
    have sd1 : s.sd = 1 := by omega
    obtain ⟨b1, b2⟩ := bits_all s.p (by omega) s.m (by omega)
    by_cases h0 : 0 ≤ z ∧ z ≤ 4
    · obtain ⟨w, rfl⟩ : ∃ w : Nat, z = (w : Int) := ⟨z.toNat, by omega⟩
      have hy : ¬ (iI (w : Int)) < 0 := by
        rw [show (0 : Int32) = iI 0 from rfl, iI_lt hz (by decide)]
        omega
      have hy4 : ¬ 4 < (iI (w : Int)) := by
        rw [show (4 : Int32) = iI 4 from rfl, iI_lt (by decide) hz]
        omega
      have hw : w = 0 ∨ w = 1 ∨ w = 2 ∨ w = 3 ∨ w = 4 := by omega
      have fin : ∀ {t r c : Nat} {v : Nat → Rat}, r = s.rv w → c = s.cv w → v = s.vf w → (∀ post' : Nat → Prop, post' t → wp_X6_tableOf h x1 (iI (w : Int)) post') → TS (Gk κ) V h t r c v 2560 → r ≤ 2 → c ≤ 2 → wj_X6_number_44 post postx h mc ms x1 (iI (w : Int)) y2 y3 := by
        intro t r c v hr hc hv hT T r2 c2
        refine c_num44 C hT T r2 c2 hy hy4 hmc hms (fun i j e2 e3 hi hj fr h' C2 hl F => ?_) (fun hno => kA hS ?_)
        · refine k1 hS w i j ⟨(nI_iI w).symm, e2, e3, by omega, by rw [← hr]; exact hi, by rw [← hc]; exact hj⟩ fr h' C2 hl ?_
          rw [AS.val, ← hc, ← hv]
          exact F
        · rintro ⟨w', i, j, e1, e2, e3, hw', hi, hj⟩
          rw [nI_iI, iI_eq hz (by omega)] at e1
          obtain rfl : w = w' := by omega
          exact hno i j e2 e3 (by rw [hr]; exact hi) (by rw [hc]; exact hj)
      rcases hw with rfl | rfl | rfl | rfl | rfl
      · exact fin (t := t0) rfl rfl rfl (fun post' hp => ⟨fun _ => ⟨_, c4, _, rfl, hp⟩, fun e => absurd e (by decide), fun e => absurd e (by decide), fun e => absurd e (by decide), fun e => absurd e (by decide)⟩) ((c6 sd1).1.mono b1) n2 (show (1 : Nat) ≤ 2 by decide)
      · exact fin (t := t1) rfl rfl rfl (fun post' hp => ⟨fun e => absurd e (by decide), fun _ => ⟨_, c4, _, rfl, hp⟩, fun e => absurd e (by decide), fun e => absurd e (by decide), fun e => absurd e (by decide)⟩) ((c6 sd1).2.mono b2) n2 n2
      · have hm0 : 0 < s.m := by
          rcases Nat.eq_zero_or_pos s.m with e | e
          · exact absurd ⟨by decide, by decide⟩ (hm e)
          · exact e
        exact fin (t := t2) rfl rfl rfl (fun post' hp => ⟨fun e => absurd e (by decide), fun e => absurd e (by decide), fun _ => ⟨_, c4, _, rfl, hp⟩, fun e => absurd e (by decide), fun e => absurd e (by decide)⟩) (c7 sd1 hm0).1 (show (1 : Nat) ≤ 2 by decide) (show (1 : Nat) ≤ 2 by decide)
      · have hm0 : 0 < s.m := by
          rcases Nat.eq_zero_or_pos s.m with e | e
          · exact absurd ⟨by decide, by decide⟩ (hm e)
          · exact e
        exact fin (t := t3) rfl rfl rfl (fun post' hp => ⟨fun e => absurd e (by decide), fun e => absurd e (by decide), fun e => absurd e (by decide), fun _ => ⟨_, c4, _, rfl, hp⟩, fun e => absurd e (by decide)⟩) (c7 sd1 hm0).2.1 (show (1 : Nat) ≤ 2 by decide) (show (1 : Nat) ≤ 2 by decide)
      · have hm0 : 0 < s.m := by
          rcases Nat.eq_zero_or_pos s.m with e | e
          · exact absurd ⟨by decide, by decide⟩ (hm e)
          · exact e
        exact fin (t := t4) rfl rfl rfl (fun post' hp => ⟨fun e => absurd e (by decide), fun e => absurd e (by decide), fun e => absurd e (by decide), fun e => absurd e (by decide), fun _ => ⟨_, c4, _, rfl, hp⟩⟩) (c7 sd1 hm0).2.2 n2 (show (1 : Nat) ≤ 2 by decide)
    · have hno : ¬ ∃ w i j, askV s (iI z) y2 y3 w i j := by
        rintro ⟨w', i, j, e1, e2, e3, hw', hi, hj⟩
        rw [nI_iI, iI_eq hz (by omega)] at e1
        omega
      have hA : wj_X6_number_66 post postx h mc ms := ⟨by omega, by omega, kA hS hno⟩
      refine ⟨fun _ => hA, fun w1 => ⟨fun _ => hA, fun w2 => absurd h0 ?_⟩⟩
      rw [show (0 : Int32) = iI 0 from rfl, iI_lt hz (by decide)] at w1
      rw [show (4 : Int32) = iI 4 from rfl, iI_lt (by decide) hz] at w2
      intro w
      omega
  have hsd0 : ∀ {x : Nat}, x < 2147483648 → (nI x = 0 ↔ x = 0) := by
    intro x hx
    rw [show (0 : Int32) = nI 0 from rfl, nI_eq hx (by decide)]
  have n15 : ∀ s0 : Int32, (s0 = 0 → ¬ (2 ≤ z ∧ z ≤ 4)) → (s0 ≠ 0 → (2 ≤ z ∧ z ≤ 4)) → wj_X6_number_15 post postx h mc ms x1 (iI z) y2 y3 s0 := by
    intro s0 hs1 hs2
    refine ⟨_, c4, _, rfl, fun e => hthS (Or.inl ((hsd0 (by omega)).mp e)), fun e => ⟨fun e0 => n44 (fun w => e (by rw [w]; rfl)) (fun _ => hs1 e0), fun e0 => ⟨_, rfl, fun em => n44 (fun w => e (by rw [w]; rfl)) (fun w => absurd (by rw [w]; rfl) em), fun em => hthS (Or.inr ⟨(hsd0 (by omega)).mp em, ?_, ?_⟩)⟩⟩⟩
    · rw [hzi]
      exact (hs2 e0).1
    · rw [hzi]
      exact (hs2 e0).2
  rw [wp_X6_number, wj_X6_number_14, show (2 : Int32) = iI 2 from rfl, show (4 : Int32) = iI 4 from rfl, iI_lt hz (by decide), iI_lt (by decide) hz]
  exact ⟨fun e => n15 0 (fun _ => by omega) (fun w => absurd rfl w), fun e => ⟨fun e2 => n15 0 (fun _ => by omega) (fun w => absurd rfl w), fun e2 => n15 1 (fun w => absurd w (by decide)) (fun _ => by omega)⟩⟩
theorem c_wholeOf {κ : Nat → Option Nat} {V : vT} {S : Nat → Prop} {h : xH} {x1 mc ms : Nat} {y1 y2 y3 y4 : Int32} {s : AS} {post : Nat → xH → Prop} {postx : String → xH → Prop} (C : CI κ V S h x1 s) (ok : s.ok) (hmc : 25 ≤ mc) (hms : 1100 ≤ ms)
    (k1 : ¬ askS s y1 → ∀ w i j, askV s y1 y2 y3 w i j → y4 = 0 ∨ y4 = 1 → ∀ W h', CI κ V S h' x1 s → (∀ b, S b → h' b = h b) → (y4 = 0 → Wh (Gk κ) h' W (s.val w i j).num) → (y4 = 1 → Wh (Gk κ) h' W ((s.val w i j).den : Int)) → post W h')
    (kS : askS s y1 → ∀ h', CI κ V S h' x1 s → (∀ b, S b → h' b = h b) → postx EIS h') (kA : ¬ askS s y1 → ¬ ((∃ w i j, askV s y1 y2 y3 w i j) ∧ (y4 = 0 ∨ y4 = 1)) → ∀ h', CI κ V S h' x1 s → (∀ b, S b → h' b = h b) → postx EIA h') : wp_X6_wholeOf h mc ms x1 y1 y2 y3 y4 post postx := by
  have C' := C
  obtain ⟨c1, c2, c3, mo, t0, t1, t2, t3, t4, c4, -⟩ := C'
  refine ⟨_, c4, 1, 6, by omega, by omega, c_number C ok (Nat.le_refl _) (Nat.le_refl _) (fun hS w i j hv fr h4 C4 hl F => ?_) (fun hS => kS hS h C (fun _ _ => rfl)) (fun hS hn => kA hS (fun z => hn z.1) h C (fun _ _ => rfl))⟩
  have low : y4 = 0 ∨ y4 = 1 → wj_X6_wholeOf_28 post postx h4 (mc - 1) (ms - 6) y4 fr := by
    intro hy
    have C4' := C4
    obtain ⟨d1, d2, d3, mo', t0', t1', t2', t3', t4', d4, -⟩ := C4'
    have F' := F
    obtain ⟨a, b, n, d, lo, oF, -⟩ := F'
    refine ⟨_, oF, 18, 1000, by omega, by omega, sf_lowest F d3 d1 (Nat.le_refl _) (Nat.le_refl _) (fun h' a' b' m1 m2 m3 m4 oF' W1 W2 => ?_)⟩
    have hx : x1 ≠ fr := fun e => by rw [← e, d4] at oF; cases oF
    have C5 := C4.mv' m1 m3 m4 ((m2 _ _ hx d4).trans d4.symm)
    have hl5 : ∀ b, S b → h' b = h b := fun b hb => (C4.left m1 b hb).trans (hl b hb)
    exact ⟨fun e => ⟨_, oF', _, oF', _, rfl, k1 hS w i j hv hy b' h' C5 hl5 (fun z => absurd z e) (fun _ => W2)⟩, fun e => ⟨_, oF', _, oF', _, rfl, k1 hS w i j hv hy a' h' C5 hl5 (fun _ => W1) (fun z => by rw [e] at z; exact absurd z (by decide))⟩⟩
  exact ⟨fun e => low (Or.inl e), fun e => ⟨fun e1 => low (Or.inr e1), fun e1 => ⟨by omega, by omega, kA hS (fun z => z.2.elim e e1) h4 C4 hl⟩⟩⟩
theorem c_sign {κ : Nat → Option Nat} {V : vT} {S : Nat → Prop} {h : xH} {x1 mc ms : Nat} {y1 y2 y3 : Int32} {s : AS} {post : Int32 → xH → Prop} {postx : String → xH → Prop} (C : CI κ V S h x1 s) (ok : s.ok) (hmc : 1 ≤ mc) (hms : 6 ≤ ms)
    (k1 : ¬ askS s y1 → ∀ w i j, askV s y1 y2 y3 w i j → ∀ h', CI κ V S h' x1 s → (∀ b, S b → h' b = h b) → post (iI (s.val w i j).num.sign) h')
    (kS : askS s y1 → postx EIS h) (kA : ¬ askS s y1 → (¬ ∃ w i j, askV s y1 y2 y3 w i j) → postx EIA h) : wp_X6_sign h mc ms x1 y1 y2 y3 post postx := by
  have C' := C
  obtain ⟨c1, c2, c3, mo, t0, t1, t2, t3, t4, c4, -⟩ := C'
  refine ⟨_, c4, 1, 6, by omega, by omega, c_number C ok (Nat.le_refl _) (Nat.le_refl _) (fun hS w i j hv fr h4 C4 hl F => ?_) kS kA⟩
  have F' := F
  obtain ⟨a, b, n, d, lo, oF, -⟩ := F'
  exact ⟨_, oF, sf_sense F (k1 hS w i j hv h4 C4 hl)⟩
theorem c_pieces {κ : Nat → Option Nat} {V : vT} {S : Nat → Prop} {h : xH} {x1 mc ms : Nat} {y1 y2 y3 y4 : Int32} {s : AS} {post : Int32 → xH → Prop} {postx : String → xH → Prop} (C : CI κ V S h x1 s) (ok : s.ok) (hmc : 25 ≤ mc) (hms : 1100 ≤ ms)
    (k1 : ¬ askS s y1 → ∀ w i j, askV s y1 y2 y3 w i j → ∀ r, (y4 = 0 ∧ r = nI (ln (s.val w i j).num.natAbs)) ∨ (y4 = 1 ∧ r = nI (ln (s.val w i j).den)) → ∀ h', CI κ V S h' x1 s → (∀ b, S b → h' b = h b) → post r h')
    (kS : askS s y1 → ∀ h', CI κ V S h' x1 s → (∀ b, S b → h' b = h b) → postx EIS h') (kA : ¬ askS s y1 → ¬ ((∃ w i j, askV s y1 y2 y3 w i j) ∧ (y4 = 0 ∨ y4 = 1)) → ∀ h', CI κ V S h' x1 s → (∀ b, S b → h' b = h b) → postx EIA h') : wp_X6_pieces h mc ms x1 y1 y2 y3 y4 post postx := by
  have C' := C
  obtain ⟨c1, c2, c3, mo, t0, t1, t2, t3, t4, c4, -⟩ := C'
  refine ⟨_, c4, mc, ms, Nat.le_refl _, Nat.le_refl _, c_wholeOf C ok hmc hms (fun hS w i j hv hy W h' C' hl W0 W1 => ?_) kS kA⟩
  rcases hy with e | e
  · obtain ⟨d, n, oW, -⟩ := W0 e
    exact ⟨_, oW, _, oW, _, rfl, k1 hS w i j hv _ (Or.inl ⟨e, rfl⟩) h' C' hl⟩
  · obtain ⟨d, n, oW, -⟩ := W1 e
    exact ⟨_, oW, _, oW, _, rfl, k1 hS w i j hv _ (Or.inr ⟨e, by rw [Int.natAbs_natCast]⟩) h' C' hl⟩
theorem c_piece {κ : Nat → Option Nat} {V : vT} {S : Nat → Prop} {h : xH} {x1 mc ms : Nat} {y1 y2 y3 y4 y5 : Int32} {s : AS} {post : Int32 → xH → Prop} {postx : String → xH → Prop} (C : CI κ V S h x1 s) (ok : s.ok) (hmc : 26 ≤ mc) (hms : 1106 ≤ ms)
    (k1 : ¬ askS s y1 → ∀ w i j, askV s y1 y2 y3 w i j → ∀ k, y5 = nI k → k < 2147483648 → ∀ r, (y4 = 0 ∧ r = nI (dg (s.val w i j).num.natAbs k)) ∨ (y4 = 1 ∧ r = nI (dg (s.val w i j).den k)) → ∀ h', CI κ V S h' x1 s → (∀ b, S b → h' b = h b) → post r h')
    (kS : askS s y1 → ∀ h', CI κ V S h' x1 s → (∀ b, S b → h' b = h b) → postx EIS h') (kA : ¬ askS s y1 → ¬ ((∃ w i j, askV s y1 y2 y3 w i j) ∧ (y4 = 0 ∨ y4 = 1) ∧ 0 ≤ y5) → ∀ h', CI κ V S h' x1 s → (∀ b, S b → h' b = h b) → postx EIA h') : wp_X6_piece h mc ms x1 y1 y2 y3 y4 y5 post postx := by
  have C' := C
  obtain ⟨c1, c2, c3, mo, t0, t1, t2, t3, t4, c4, -⟩ := C'
  refine ⟨_, c4, 25, 1100, by omega, by omega, c_wholeOf C ok (Nat.le_refl _) (Nat.le_refl _) (fun hS w i j hv hy W h' C' hl W0 W1 => ⟨fun e5 => ?_, fun e5 => ⟨by omega, by omega, kA hS (fun z => e5 z.2.2) h' C' hl⟩⟩) kS (fun hS hn => kA hS (fun z => hn ⟨z.1, z.2.1⟩))⟩
  obtain ⟨k, rfl, hk⟩ := i32_nat (x := y5) (by
    intro z
    exact absurd z (Int32.not_lt.mpr e5))
  rcases hy with e | e
  · have X := W0 e
    obtain ⟨d, n, oW, -⟩ := W0 e
    exact ⟨_, oW, sw_digit' X hk (k1 hS w i j hv k rfl hk _ (Or.inl ⟨e, rfl⟩) h' C' hl)⟩
  · have X := W1 e
    obtain ⟨d, n, oW, -⟩ := W1 e
    exact ⟨_, oW, sw_digit' X hk (k1 hS w i j hv k rfl hk _ (Or.inr ⟨e, by rw [Int.natAbs_natCast]⟩) h' C' hl)⟩
theorem c_scaled {κ : Nat → Option Nat} {V : vT} {S : Nat → Prop} {h : xH} {x1 mc ms : Nat} {y1 y2 y3 y4 : Int32} {s : AS} {post : Int64 → xH → Prop} {postx : String → xH → Prop} (C : CI κ V S h x1 s) (ok : s.ok) (hmc : 26 ≤ mc) (hms : 1106 ≤ ms)
    (k1 : ¬ askS s y1 → ∀ w i j, askV s y1 y2 y3 w i j → ∀ f : Nat, y4 = nI f → 1 ≤ f → f ≤ 1000000 → ∀ h', CI κ V S h' x1 s → (∀ b, S b → h' b = h b) → post (lI (cl ((s.val w i j).num * f / (s.val w i j).den))) h')
    (kS : askS s y1 → ∀ h', CI κ V S h' x1 s → (∀ b, S b → h' b = h b) → postx EIS h') (kA : ¬ askS s y1 → ¬ ((∃ w i j, askV s y1 y2 y3 w i j) ∧ ¬ y4 < 1 ∧ y4 ≤ 1000000) → ∀ h', CI κ V S h' x1 s → (∀ b, S b → h' b = h b) → postx EIA h') : wp_X6_scaled h mc ms x1 y1 y2 y3 y4 post postx := by
  have C' := C
  obtain ⟨c1, c2, c3, mo, t0, t1, t2, t3, t4, c4, -⟩ := C'
  refine ⟨_, c4, 1, 6, by omega, by omega, c_number C ok (Nat.le_refl _) (Nat.le_refl _) (fun hS w i j hv fr h4 C4 hl F => ?_) (fun hS => kS hS h C (fun _ _ => rfl)) (fun hS hn => kA hS (fun z => hn z.1) h C (fun _ _ => rfl))⟩
  refine ⟨fun e => ⟨by omega, by omega, kA hS (fun z => z.2.1 e) h4 C4 hl⟩, fun e => ⟨fun e2 => ?_, fun e2 => ⟨by omega, by omega, kA hS (fun z => e2 z.2.2) h4 C4 hl⟩⟩⟩
  obtain ⟨f, rfl, hf⟩ := i32_nat (x := y4) (fun z => e (by
    obtain ⟨y, rfl, hy⟩ := i32_rng y4
    rw [show (0 : Int32) = iI 0 from rfl, iI_lt hy (by decide)] at z
    rw [show (1 : Int32) = iI 1 from rfl, iI_lt hy (by decide)]
    omega))
  rw [show (1 : Int32) = nI 1 from rfl, nI_ltI hf (by decide)] at e
  rw [show (1000000 : Int32) = nI 1000000 from rfl, nI_leI hf (by decide)] at e2
  have F' := F
  obtain ⟨a, b, n, d, lo, oF, -⟩ := F'
  refine ⟨_, oF, 19, 900, by omega, by omega, sf_multipleDown F (fun q hq => C4.1 q hq) e2 (Nat.le_refl _) (Nat.le_refl _) (fun h' x => ?_)⟩
  exact k1 hS w i j hv f rfl (by omega) e2 h' (C4.ext x) (fun b hb => (C4.left x.mv b hb).trans (hl b hb))
theorem c_compare {κ : Nat → Option Nat} {V : vT} {S : Nat → Prop} {h : xH} {x1 mc ms : Nat} {y1 y2 y3 y4 y5 : Int32} {s : AS} {post : Int32 → xH → Prop} {postx : String → xH → Prop} (C : CI κ V S h x1 s) (ok : s.ok) (hmc : 26 ≤ mc) (hms : 1106 ≤ ms)
    (k1 : ¬ askS s y1 → ∀ w i j, askV s y1 y2 y3 w i j → ∀ a b, isFr y4 y5 a b → ∀ h', CI κ V S h' x1 s → (∀ b, S b → h' b = h b) → post (iI ((s.val w i j).num * b - (s.val w i j).den * a).sign) h')
    (kS : askS s y1 → ∀ h', CI κ V S h' x1 s → (∀ b, S b → h' b = h b) → postx EIS h') (kA : ¬ askS s y1 → ¬ ((∃ w i j, askV s y1 y2 y3 w i j) ∧ ∃ a b, isFr y4 y5 a b) → ∀ h', CI κ V S h' x1 s → (∀ b, S b → h' b = h b) → postx EIA h') : wp_X6_compare h mc ms x1 y1 y2 y3 y4 y5 post postx := by
  have C' := C
  obtain ⟨c1, c2, c3, mo, t0, t1, t2, t3, t4, c4, -⟩ := C'
  refine ⟨_, c4, 1, 6, by omega, by omega, c_number C ok (Nat.le_refl _) (Nat.le_refl _) (fun hS w i j hv fr h4 C4 hl F => ?_) (fun hS => kS hS h C (fun _ _ => rfl)) (fun hS hn => kA hS (fun z => hn z.1) h C (fun _ _ => rfl))⟩
  refine c_isFr (fun a b hab => ⟨fun _ => ?_, fun z => absurd z (by decide)⟩) (fun hf => ⟨fun z => absurd rfl z, fun _ => ⟨by omega, by omega, kA hS (fun z => hf z.2) h4 C4 hl⟩⟩)
  obtain ⟨eA, eB, f3, f4, f5⟩ := id hab
  have F' := F
  obtain ⟨a', b', n, d, lo, oF, -⟩ := F'
  refine ⟨_, oF, 11, 600, by omega, by omega, ?_⟩
  rw [eA, eB]
  exact sf_against F (fun q hq => C4.1 q hq) (by omega) (by omega) (Nat.le_refl _) (Nat.le_refl _) (fun h' x => k1 hS w i j hv a b hab h' (C4.ext x) (fun b hb => (C4.left x.mv b hb).trans (hl b hb)))
theorem c_about {κ : Nat → Option Nat} {V : vT} {S : Nat → Prop} {h : xH} {x1 : Nat} {y1 : Int32} {s : AS} {post : Int32 → Prop} (C : CI κ V S h x1 s) (ok : s.ok)
    (k : ∀ r, r = (if y1 = 0 then nI s.n else if y1 = 1 then nI s.sd else if y1 = 2 then nI s.p else if y1 = 3 then nI s.m else -1) → post r) : wp_X6_about h x1 y1 post := by
  obtain ⟨n1, n2, o3, o4, o5, o6, -⟩ := ok
  obtain ⟨c1, c2, c3, mo, t0, t1, t2, t3, t4, c4, c5, -⟩ := C
  have M' := c5
  obtain ⟨ps, fp, a1, -⟩ := M'
  refine ⟨fun e => k _ ?_, fun e => ⟨_, c4, _, rfl, _, a1, sm_size c5 (k _ ?_)⟩, fun e => ⟨_, c4, _, rfl, fun e0 => k _ ?_, fun e0 => k _ ?_⟩, fun e => ⟨_, c4, _, rfl, k _ ?_⟩, fun e => ⟨_, c4, _, rfl, k _ ?_⟩⟩
  · rw [if_neg (fun z => by rw [z] at e; exact absurd e (by decide)), if_neg (fun z => by rw [z] at e; exact absurd e (by decide)), if_neg (fun z => by rw [z] at e; exact absurd e (by decide)), if_neg (fun z => by rw [z] at e; exact absurd e (by decide))]
  · rw [if_pos e]
  · rw [e, if_neg (by decide), if_pos rfl, e0]
  · rw [e, if_neg (by decide), if_pos rfl]
    have : s.sd = 1 := by
      rcases (show s.sd = 0 ∨ s.sd = 1 by omega) with w | w
      · rw [w] at e0
        exact absurd rfl e0
      · exact w
    rw [this]
    rfl
  · rw [e, if_neg (by decide), if_neg (by decide), if_pos rfl]
  · rw [e, if_neg (by decide), if_neg (by decide), if_neg (by decide), if_pos rfl]
