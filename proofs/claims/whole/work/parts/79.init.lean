/-! ===== the law's beginning (own work) ===== -/
def s0 : AS := mkAS 1 (an0 1) (fun _ => 1) 0 0 0 0 (fun _ => 0) (fun _ => 0) (fun _ => 0) (fun _ => 0) (fun _ => 0)
theorem s0_ok : s0.okb := by
  refine ⟨by decide, by decide, by decide, by decide, by decide, by decide, fun x hx => ⟨?_, Nat.le_refl _, (by show (1 : Nat) ≤ 20; decide)⟩, ⟨rfl, rfl, rfl, rfl⟩, fun z => absurd (show (0 : Nat) = 1 from z) (by decide)⟩
  show (an0 1 x).natAbs ≤ 20
  unfold an0
  split <;> decide
theorem c_init {h0 : xH} {x0 mc ms : Nat} {post : xH → Prop} (hx : h0 x0 = some (.inr (6, [.null, .int 0, .int 0, .int 0, .int 0, .null, .null, .null, .null, .null]))) (hmc : 40 ≤ mc) (hms : 200 ≤ ms)
    (kk : ∀ κ h', Ext (fun b => if b = x0 then none else h0 b) h' → CI κ (fun _ => none) (fun _ => False) h' x0 s0 → post h') : wp_X6_init h0 mc ms x0 post := by
  refine ⟨by omega, by omega, fun q5 hf h5 e5 => ⟨22, 91, by omega, by omega, ?_⟩⟩
  have x5 : Ext h0 h5 := by rw [e5]; exact Ext.new hf
  refine sm_init (n := 1) (by decide) (by decide) x5 (fresh_none hf) (by rw [e5, x_up_s]) (Nat.le_refl _) (Nat.le_refl _) (fun κ h10 x10 a2 a3 M => ?_)
  have r0 : RB κ (fun _ => none) h10 h10 x0 _ := ⟨Mv.rf _, fun b hb => hb, (fun _ _ _ hq => by cases hq), x10 _ _ hx⟩
  refine ⟨_, r0.2.2.2, (Nat.le_of_ble_eq_true rfl), fun h13 e13 => ⟨7, 21, by omega, by omega, ?_⟩⟩
  have r1 := r0.set e13
  refine tq_ofFraction (G := Gk κ) (n := 0) (d := 1) (by decide) (by decide) (by decide) (fun q hq => a3 q (r1.2.1 q hq)) (Nat.le_refl _) (Nat.le_refl _) (fun T h18 qT x18 _ _ _ _ => ?_)
  have r2 := r1.ext x18
  refine ⟨_, r2.2.2.2, (Nat.le_of_ble_eq_true rfl), fun h24 e24 => ⟨(Nat.le_of_ble_eq_true rfl), fun h29 e29 => ⟨(Nat.le_of_ble_eq_true rfl), fun h34 e34 => ⟨(Nat.le_of_ble_eq_true rfl), fun h39 e39 => ⟨(Nat.le_of_ble_eq_true rfl), fun h44 e44 => ?_⟩⟩⟩⟩⟩
  have r3 := r2.set e24
  have r4 := r3.set e29
  have r5 := r4.set e34
  have r6 := r5.set e39
  have r7 := r6.set e44
  have keep : ∀ b, b ≠ x0 → ∀ e, h10 b = some e → h44 b = some e := by
    intro b hb e he
    rw [e44, x_up_n hb, e39, x_up_n hb, e34, x_up_n hb, e29, x_up_n hb, e24, x_up_n hb]
    refine x18 b e ?_
    rw [e13, x_up_n hb]
    exact he
  refine kk κ h44 (fun b e he => ?_) ⟨fun b hb => a3 b (r7.2.1 b hb), fun b hb => hb.elim, (fun _ _ _ hq => by cases hq), q5, T, T, T, T, T, r7.2.2.2, M.mv r7.1, fun z => absurd (show (0 : Nat) = 1 from z) (by decide), fun z => absurd (show (0 : Nat) = 1 from z) (by decide)⟩
  have he : (if b = x0 then none else h0 b) = some e := he
  by_cases hb : b = x0
  · rw [if_pos hb] at he
    cases he
  · rw [if_neg hb] at he
    exact keep b hb e (x10 _ _ he)
theorem CI.tag {κ : Nat → Option Nat} {V : vT} {S : Nat → Prop} {h h' : xH} {x1 : Nat} {s : AS} (C : CI κ V (fun _ => False) h x1 s) (hs : s.sd = 0) (e : Ext h h') (h1 : ∀ b, S b → h b = none) (h2 : ∀ b, S b → ∃ e, h' b = some e ∧ srt e) : ∃ κ', CI κ' (fun _ => none) S h' x1 s := by
  obtain ⟨c1, c2, c3, mo, t0, t1, t2, t3, t4, c4, c5, c6, c7⟩ := C
  obtain ⟨κ', g1, g2, M⟩ := (c5.ext e).retag (S := S) (fun b e' hb he => by
    obtain ⟨e2, k1, k2⟩ := h2 b hb
    rw [k1] at he
    cases he
    exact k2) (fun b hb => c1 b (h1 b hb))
  refine ⟨κ', fun b hb => ?_, fun b hb => ⟨g1 b hb, h2 b hb⟩, (fun _ _ _ hq => by cases hq), mo, t0, t1, t2, t3, t4, e _ _ c4, M, fun z => absurd (hs.symm.trans z) (by decide), fun z => absurd (hs.symm.trans z) (by decide)⟩
  have hns : ¬ S b := by
    intro hb'
    obtain ⟨e2, k1, k2⟩ := h2 b hb'
    rw [hb] at k1
    cases k1
  rw [g2 b hns]
  exact c1 b (e.none hb)
theorem fresh_lt {h : xH} {q b : Nat} {e : xE} (hf : x_fresh h q) (hb : h b = some e) : b < q := hf b e hb
theorem RS_0 : RS (fun _ => 0) (fun _ => 0) (fun _ => 0) := by
  intro r hr
  refine ⟨by rw [ln_0]; omega, by rw [ln_0]; rfl, fun i hi => ?_⟩
  rw [ln_0] at hi
  omega
set_option maxRecDepth 4000 in
theorem e_init {h0 : xH} {x0 mc ms : Nat} {post : xH → Prop} (hx : h0 x0 = some (.inr (7, [.int 0, .int 0, .null, .null, .int 0, .int 0, .int 0, .int 0, .null, .null, .null, .null]))) (hmc : 6 ≤ mc) (hms : 99178 ≤ ms)
    (kk : ∀ q h', q 0 = x0 → (∀ b, ¬ A7 q b → h' b = h0 b) → (∀ b, A7 q b → b = x0 ∨ h0 b = none) → RI h' q 0 s0 → post h') : wp_X7_init h0 mc ms x0 post := by
  refine ⟨_, hx, (Nat.le_of_ble_eq_true rfl), fun h6 e6 => ⟨(Nat.le_of_ble_eq_true rfl), fun h11 e11 => ⟨by decide, fun z17 ez17 => ?_⟩⟩⟩
  have ez : z17 = 40 := by rw [← ez17]; decide
  subst ez
  have O11 : h11 x0 = some (.inr (7, [.int 0, .int 1, .null, .null, .int 0, .int 0, .int 0, .int 0, .null, .null, .null, .null])) := by rw [e11, x_up_s]; rfl
  have n11 : ∀ b, b ≠ x0 → h11 b = h0 b := fun b hb => by rw [e11, x_up_n hb, e6, x_up_n hb]
  refine ⟨by decide, by omega, by omega, fun q1 f1 h17 e17 => ?_⟩
  have l1 : x0 < q1 := fresh_lt f1 O11
  have O17 := (show h17 x0 = h11 x0 from by rw [e17, x_up_n (by omega)]).trans O11
  refine ⟨_, O17, (Nat.le_of_ble_eq_true rfl), fun h19 e19 => ⟨by decide, fun z25 ez25 => ?_⟩⟩
  have ez : z25 = 40 := by rw [← ez25]; decide
  subst ez
  have O19 : h19 x0 = some (.inr (7, [.int 0, .int 1, .ref q1, .null, .int 0, .int 0, .int 0, .int 0, .null, .null, .null, .null])) := by rw [e19, x_up_s]; rfl
  have n19 : ∀ b, b ≠ x0 → h19 b = h17 b := fun b hb => by rw [e19, x_up_n hb]
  have A1 : h19 q1 = some (.inl (0, 40, .inl (fun _ => 0))) := by rw [n19 q1 (by omega), e17, x_up_s]
  refine ⟨by decide, by omega, by omega, fun q2 f2 h25 e25 => ?_⟩
  have l2 : q1 < q2 := fresh_lt f2 A1
  have O25 := (show h25 x0 = h19 x0 from by rw [e25, x_up_n (by omega)]).trans O19
  refine ⟨_, O25, (Nat.le_of_ble_eq_true rfl), fun h27 e27 => ⟨(Nat.le_of_ble_eq_true rfl), fun h32 e32 => ⟨(Nat.le_of_ble_eq_true rfl), fun h37 e37 => ⟨(Nat.le_of_ble_eq_true rfl), fun h42 e42 => ⟨(Nat.le_of_ble_eq_true rfl), fun h47 e47 => ⟨by decide, fun z53 ez53 => ?_⟩⟩⟩⟩⟩⟩
  have ez : z53 = 96000 := by rw [← ez53]; decide
  subst ez
  have O47 : h47 x0 = some (.inr (7, [.int 0, .int 1, .ref q1, .ref q2, .int 0, .int 0, .int 0, .int 0, .null, .null, .null, .null])) := by rw [e47, x_up_s]; rfl
  have n47 : ∀ b, b ≠ x0 → h47 b = h25 b := fun b hb => by rw [e47, x_up_n hb, e42, x_up_n hb, e37, x_up_n hb, e32, x_up_n hb, e27, x_up_n hb]
  have A2 : h47 q2 = some (.inl (0, 40, .inl (fun _ => 0))) := by rw [n47 q2 (by omega), e25, x_up_s]
  refine ⟨by decide, by omega, by omega, fun q3 f3 h53 e53 => ?_⟩
  have l3 : q2 < q3 := fresh_lt f3 A2
  have O53 := (show h53 x0 = h47 x0 from by rw [e53, x_up_n (by omega)]).trans O47
  refine ⟨_, O53, (Nat.le_of_ble_eq_true rfl), fun h55 e55 => ⟨by decide, fun z61 ez61 => ?_⟩⟩
  have ez : z61 = 64 := by rw [← ez61]; decide
  subst ez
  have O55 : h55 x0 = some (.inr (7, [.int 0, .int 1, .ref q1, .ref q2, .int 0, .int 0, .int 0, .int 0, .ref q3, .null, .null, .null])) := by rw [e55, x_up_s]; rfl
  have n55 : ∀ b, b ≠ x0 → h55 b = h53 b := fun b hb => by rw [e55, x_up_n hb]
  have A3 : h55 q3 = some (.inl (0, 96000, .inl (fun _ => 0))) := by rw [n55 q3 (by omega), e53, x_up_s]
  refine ⟨by decide, by omega, by omega, fun q4 f4 h61 e61 => ?_⟩
  have l4 : q3 < q4 := fresh_lt f4 A3
  have O61 := (show h61 x0 = h55 x0 from by rw [e61, x_up_n (by omega)]).trans O55
  refine ⟨_, O61, (Nat.le_of_ble_eq_true rfl), fun h63 e63 => ⟨by decide, fun z69 ez69 => ?_⟩⟩
  have ez : z69 = 24 := by rw [← ez69]; decide
  subst ez
  have O63 : h63 x0 = some (.inr (7, [.int 0, .int 1, .ref q1, .ref q2, .int 0, .int 0, .int 0, .int 0, .ref q3, .ref q4, .null, .null])) := by rw [e63, x_up_s]; rfl
  have n63 : ∀ b, b ≠ x0 → h63 b = h61 b := fun b hb => by rw [e63, x_up_n hb]
  have A4 : h63 q4 = some (.inl (0, 64, .inl (fun _ => 0))) := by rw [n63 q4 (by omega), e61, x_up_s]
  refine ⟨by decide, by omega, by omega, fun q5 f5 h69 e69 => ?_⟩
  have l5 : q4 < q5 := fresh_lt f5 A4
  have O69 := (show h69 x0 = h63 x0 from by rw [e69, x_up_n (by omega)]).trans O63
  refine ⟨_, O69, (Nat.le_of_ble_eq_true rfl), fun h71 e71 => ⟨by decide, fun z78 ez78 => ?_⟩⟩
  have ez : z78 = 3010 := by rw [← ez78]; decide
  subst ez
  have O71 : h71 x0 = some (.inr (7, [.int 0, .int 1, .ref q1, .ref q2, .int 0, .int 0, .int 0, .int 0, .ref q3, .ref q4, .ref q5, .null])) := by rw [e71, x_up_s]; rfl
  have n71 : ∀ b, b ≠ x0 → h71 b = h69 b := fun b hb => by rw [e71, x_up_n hb]
  have A5 : h71 q5 = some (.inl (0, 24, .inl (fun _ => 0))) := by rw [n71 q5 (by omega), e69, x_up_s]
  refine ⟨by decide, by omega, by omega, fun q6 f6 h78 e78 => ?_⟩
  have l6 : q5 < q6 := fresh_lt f6 A5
  have O78 := (show h78 x0 = h71 x0 from by rw [e78, x_up_n (by omega)]).trans O71
  refine ⟨_, O78, (Nat.le_of_ble_eq_true rfl), fun h80 e80 => ?_⟩
  have O80 : h80 x0 = some (.inr (7, [.int 0, .int 1, .ref q1, .ref q2, .int 0, .int 0, .int 0, .int 0, .ref q3, .ref q4, .ref q5, .ref q6])) := by rw [e80, x_up_s]; rfl
  have n80 : ∀ b, b ≠ x0 → h80 b = h78 b := fun b hb => by rw [e80, x_up_n hb]
  obtain ⟨q, hq⟩ : ∃ q : Nat → Nat, q = fun k => match k with
    | 0 => x0
    | 1 => q1
    | 2 => q2
    | 3 => q3
    | 4 => q4
    | 5 => q5
    | _ => q6 := ⟨_, rfl⟩
  have d0 : q 0 = x0 := by subst hq; rfl
  have d1 : q 1 = q1 := by subst hq; rfl
  have d2 : q 2 = q2 := by subst hq; rfl
  have d3 : q 3 = q3 := by subst hq; rfl
  have d4 : q 4 = q4 := by subst hq; rfl
  have d5 : q 5 = q5 := by subst hq; rfl
  have d6 : q 6 = q6 := by subst hq; rfl
  have ap : ap7 q := by
    intro i j hi hj hij
    have hI : i = 0 ∨ i = 1 ∨ i = 2 ∨ i = 3 ∨ i = 4 ∨ i = 5 ∨ i = 6 := by omega
    have hJ : j = 0 ∨ j = 1 ∨ j = 2 ∨ j = 3 ∨ j = 4 ∨ j = 5 ∨ j = 6 := by omega
    rcases hI with rfl | rfl | rfl | rfl | rfl | rfl | rfl <;> rcases hJ with rfl | rfl | rfl | rfl | rfl | rfl | rfl <;> first | rfl | (exfalso; simp only [d0, d1, d2, d3, d4, d5, d6] at hij; omega)
  have g6 : ∀ b, b ≠ x0 → b ≠ q6 → h80 b = h71 b := fun b h1 h2 => by rw [n80 b h1, e78, x_up_n h2]
  have g5 : ∀ b, b ≠ x0 → b ≠ q6 → b ≠ q5 → h80 b = h63 b := fun b h1 h2 h3 => by rw [g6 b h1 h2, n71 b h1, e69, x_up_n h3]
  have g4 : ∀ b, b ≠ x0 → b ≠ q6 → b ≠ q5 → b ≠ q4 → h80 b = h55 b := fun b h1 h2 h3 h4 => by rw [g5 b h1 h2 h3, n63 b h1, e61, x_up_n h4]
  have g3 : ∀ b, b ≠ x0 → b ≠ q6 → b ≠ q5 → b ≠ q4 → b ≠ q3 → h80 b = h47 b := fun b h1 h2 h3 h4 h5 => by rw [g4 b h1 h2 h3 h4, n55 b h1, e53, x_up_n h5]
  have g2 : ∀ b, b ≠ x0 → b ≠ q6 → b ≠ q5 → b ≠ q4 → b ≠ q3 → b ≠ q2 → h80 b = h19 b := fun b h1 h2 h3 h4 h5 h6 => by rw [g3 b h1 h2 h3 h4 h5, n47 b h1, e25, x_up_n h6]
  have g1 : ∀ b, b ≠ x0 → b ≠ q6 → b ≠ q5 → b ≠ q4 → b ≠ q3 → b ≠ q2 → b ≠ q1 → h80 b = h0 b := fun b h1 h2 h3 h4 h5 h6 h7 => by rw [g2 b h1 h2 h3 h4 h5 h6, n19 b h1, e17, x_up_n h7, n11 b h1]
  have R : R7 h80 q 0 (nI 1) 0 0 0 0 (fun _ => 0) (fun _ => 0) (fun _ => 0) (fun _ => 0) (fun _ => 0) (fun _ => 0) := by
    refine ⟨?_, ?_, ?_, ?_, ?_, ?_, ?_⟩
    · rw [d0, d1, d2, d3, d4, d5, d6]
      exact O80
    · rw [d1, g2 q1 (by omega) (by omega) (by omega) (by omega) (by omega) (by omega)]
      exact A1
    · rw [d2, g3 q2 (by omega) (by omega) (by omega) (by omega) (by omega)]
      exact A2
    · rw [d3, g4 q3 (by omega) (by omega) (by omega) (by omega)]
      exact A3
    · rw [d4, g5 q4 (by omega) (by omega) (by omega)]
      exact A4
    · rw [d5, g6 q5 (by omega) (by omega)]
      exact A5
    · rw [d6, n80 q6 (by omega), e78, x_up_s]
  refine ⟨q, _, _, _, _, _, _, _, _, _, _, _, _, d0.symm, ap, R, e_fresh (n := 1) (by decide) (by decide) (fun ab' be' MD' h1 hk R1 => ?_)⟩
  have hup : ∀ {b : Nat}, x0 < b → h11 b = none → h0 b = none := fun hb hn => by rw [← n11 _ (by omega)]; exact hn
  refine kk q h1 d0 (fun b hb => ?_) (fun b hb => ?_) ⟨ap, ab', be', _, _, _, _, fun _ => none, R1, MD', ⟨fun _ => 0, RS_0, fun f q' hf hq' => by cases hq'⟩, fun z => absurd (show (0 : Nat) = 1 from z) (by decide)⟩
  · rw [hk b hb]
    have ne : ∀ k, k < 7 → b ≠ q k := fun k hk' z => hb ⟨k, hk', z⟩
    exact g1 b (d0 ▸ ne 0 (by decide)) (d6 ▸ ne 6 (by decide)) (d5 ▸ ne 5 (by decide)) (d4 ▸ ne 4 (by decide)) (d3 ▸ ne 3 (by decide)) (d2 ▸ ne 2 (by decide)) (d1 ▸ ne 1 (by decide))
  · obtain ⟨k, hk', rfl⟩ := hb
    have F1 : h0 q1 = none := hup l1 (fresh_none f1)
    have F2 : h0 q2 = none := by
      have := fresh_none f2
      rw [n19 q2 (by omega), e17, x_up_n (by omega)] at this
      exact hup (by omega) this
    have F3 : h0 q3 = none := by
      have := fresh_none f3
      rw [n47 q3 (by omega), e25, x_up_n (by omega), n19 q3 (by omega), e17, x_up_n (by omega)] at this
      exact hup (by omega) this
    have F4 : h0 q4 = none := by
      have := fresh_none f4
      rw [n55 q4 (by omega), e53, x_up_n (by omega), n47 q4 (by omega), e25, x_up_n (by omega), n19 q4 (by omega), e17, x_up_n (by omega)] at this
      exact hup (by omega) this
    have F5 : h0 q5 = none := by
      have := fresh_none f5
      rw [n63 q5 (by omega), e61, x_up_n (by omega), n55 q5 (by omega), e53, x_up_n (by omega), n47 q5 (by omega), e25, x_up_n (by omega), n19 q5 (by omega), e17, x_up_n (by omega)] at this
      exact hup (by omega) this
    have F6 : h0 q6 = none := by
      have := fresh_none f6
      rw [n71 q6 (by omega), e69, x_up_n (by omega), n63 q6 (by omega), e61, x_up_n (by omega), n55 q6 (by omega), e53, x_up_n (by omega), n47 q6 (by omega), e25, x_up_n (by omega), n19 q6 (by omega), e17, x_up_n (by omega)] at this
      exact hup (by omega) this
    have hI : k = 0 ∨ k = 1 ∨ k = 2 ∨ k = 3 ∨ k = 4 ∨ k = 5 ∨ k = 6 := by omega
    rcases hI with rfl | rfl | rfl | rfl | rfl | rfl | rfl
    · exact Or.inl d0
    · rw [d1]; exact Or.inr F1
    · rw [d2]; exact Or.inr F2
    · rw [d3]; exact Or.inr F3
    · rw [d4]; exact Or.inr F4
    · rw [d5]; exact Or.inr F5
    · rw [d6]; exact Or.inr F6
theorem law_pure {L : Nat} {xs : Nat → Int32} (hL : L ≤ 3072) : wp_L_law L xs () := by
  refine ⟨by decide, by decide, fun q0 f0 h0 e0 => ⟨40, 200, by decide, by decide, ?_⟩⟩
  have O0 : h0 q0 = some (.inr (6, [.null, .int 0, .int 0, .int 0, .int 0, .null, .null, .null, .null, .null])) := by rw [e0, x_up_s]
  refine c_init O0 (Nat.le_refl _) (Nat.le_refl _) (fun κ h4 x4 C => ?_)
  refine ⟨by decide, by decide, fun q8 f8 h8 e8 => ⟨6, 99178, by decide, by decide, ?_⟩⟩
  have O8 : h8 q8 = some (.inr (7, [.int 0, .int 0, .null, .null, .int 0, .int 0, .int 0, .int 0, .null, .null, .null, .null])) := by rw [e8, x_up_s]
  have x8 : Ext h4 h8 := by rw [e8]; exact Ext.new f8
  refine e_init O8 (Nat.le_refl _) (Nat.le_refl _) (fun q h12 eq h12k h12n R => ?_)
  have nq : ∀ b, A7 q b → h4 b = none := by
    intro b hb
    rcases h12n b hb with z | z
    · rw [z]
      exact fresh_none f8
    · exact x8.none z
  have x12 : Ext h4 h12 := by
    intro b e he
    rw [h12k b (fun hb => by rw [nq b hb] at he; cases he)]
    exact x8 b e he
  refine ⟨by decide, fun z ez => ?_⟩
  have ez : z = 1 := by rw [← ez]; decide
  subst ez
  refine ⟨by decide, by decide, by decide, fun q17 f17 h17 e17 => ⟨L / 6 + 1, ?_⟩⟩
  have n17 : h12 q17 = none := fresh_none f17
  have hA : ¬ A7 q q17 := by
    intro hb
    obtain ⟨r0, ab, be, pi, le, sg, wo, Q, R', -⟩ := R
    obtain ⟨e, k1, k2⟩ := R'.srt q17 hb
    rw [n17] at k1
    cases k1
  have O17 : h17 q17 = some (.inl (1, 1, .inr (.inl (fun _ => 0)))) := by rw [e17, x_up_s]
  have x17 : Ext h12 h17 := by rw [e17]; exact Ext.new f17
  have R17 : RI h17 q 0 s0 := R.keep (fun b hb => by
    have hne : b ≠ q17 := fun z => hA (by rw [← z]; exact hb)
    rw [e17, x_up_n hne])
  obtain ⟨κ', C'⟩ := C.tag (S := Sx q q17) rfl (x12.tr x17) (fun b hb => by
    rcases hb with hb | hb
    · exact nq b hb
    · rw [hb]
      exact x12.none n17) (fun b hb => by
    rcases hb with hb | hb
    · obtain ⟨r0, ab, be, pi, le, sg, wo, Q, R', -⟩ := R17
      exact R'.srt b hb
    · rw [hb]
      exact ⟨_, O17, Or.inr rfl⟩)
  have I : INV h17 q0 q8 q17 s0 := ⟨κ', _, q, _, 0, ⟨C', R17, O17, hA⟩, s0_ok, eq.symm⟩
  have hp : pot s0 = 24 * 147500 := rfl
  exact law_loop hL (fun _ _ _ => trivial) (L / 6) 0 h17 _ _ s0 (by omega) I (by omega) (by rw [hp]; omega)
