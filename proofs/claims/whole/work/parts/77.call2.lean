/-! ===== one call of the law's script, on both sides: what is asked (own work) ===== -/
theorem nn_le {y : Int32} {k : Nat} (e : y = nI k) (hk : k < 2147483648) : 0 ≤ y := by
  rw [e, show (0 : Int32) = nI 0 from rfl, nI_leI (by decide) hk]
  omega
theorem sc_rng {y : Int32} {g : Nat} (e : y = nI g) (h1 : 1 ≤ g) (h2 : g ≤ 1000000) : ¬ y < 1 ∧ y ≤ 1000000 := by
  rw [e, show (1 : Int32) = nI 1 from rfl, show (1000000 : Int32) = nI 1000000 from rfl, nI_ltI (by omega) (by decide), nI_leI (by omega) (by decide)]
  omega
theorem l_sign {h : xH} {x1 x2 x3 : Nat} {s : AS} (I : INV h x1 x2 x3 s) (y1 y2 y3 : Int32) {mc ms : Nat} {nxt K K' : xH → Prop} {P1 P2 P3 : Prop} (hmc : 600 ≤ mc) (hms : 3900 ≤ ms) (p1 : P1) (p2 : P2) (p3 : P3) (N : ∀ h', INV h' x1 x2 x3 s → nxt h') :
    wp_L_sign h mc ms x1 y1 y2 y3 x3 (fun r h1 => P1 ∧ P2 ∧ P3 ∧ ∃ fs : List Value, h1 x2 = some (.inr (7, fs)) ∧ wp_A7_sign h1 x2 y1 y2 y3 (fun r2 h2 => ∃ fs : List Value, h2 x2 = some (.inr (7, fs)) ∧ wp_A7_thrown h2 x2 (fun r' h3 => (r' = r → (¬ r = 0 → nxt h3) ∧ (r = 0 → ∃ (n : Nat) (f : Nat → Int64), h3 x3 = some (.inl (1, n, .inr (.inl f))) ∧ vp_in 0 n ∧ (f (0 : Int32).toNatClampNeg = (r2 : Int32).toInt64 → nxt h3) ∧ (¬ f (0 : Int32).toNatClampNeg = (r2 : Int32).toInt64 → K' h3))) ∧ (¬ r' = r → K h3)))) := by
  obtain ⟨κ, V, q, f, th, M, o, e⟩ := I
  have C := M.1
  obtain ⟨c1, c2, c3, mo, t0, t1, t2, t3, t4, c4, -⟩ := C
  have ok := M.1.ok o
  have ok2 := M.1.ok2
  by_cases hS : askS s y1
  · refine ⟨_, c4, c_sign M.1 ok (by omega) (by omega) (fun z => absurd hS z) (fun _ => ?_) (fun z => absurd hS z)⟩
    refine Or.inl ⟨rfl, p1, p2, p3, ?_⟩
    have M1 := M
    obtain ⟨r0, ab, be, pi, le, sg, wo, Q, R, r1, r2, r3⟩ := M1.2.1
    refine ⟨_, by rw [e]; exact R.1, q, _, _, _, _, _, _, _, _, _, _, _, _, e, r0, R, e_sign r2 r3 ok ok2 (fun z => absurd hS z) (fun _ h2 hk R2 => ?_) (fun z => absurd hS z)⟩
    exact (M1.ref hk R2 rfl rfl rfl rfl rfl r1 r2 r3).thrown e (fun h3 M3 => fin_ans rfl M3.2.2.1 (fun z => absurd z (by decide)) (N h3 (M3.inv o e)))
  · by_cases hc : ∃ w i j, askV s y1 y2 y3 w i j
    · refine ⟨_, c4, c_sign M.1 ok (by omega) (by omega) (fun _ w i j hV  h' C1 hl => ⟨1, f, (hl x3 (Or.inr rfl)).trans M.2.2.1, by unfold vp_in; decide, fun h2 e2 => ⟨p1, p2, p3, ?_⟩⟩) (fun z => absurd z hS) (fun _ z => absurd hc z)⟩
      have M1 := (M.cls C1 hl).out e2
      obtain ⟨r0, ab, be, pi, le, sg, wo, Q, R, r1, r2, r3⟩ := M1.2.1
      refine ⟨_, by rw [e]; exact R.1, q, _, _, _, _, _, _, _, _, _, _, _, _, e, r0, R, e_sign r2 r3 ok ok2 (fun _ w' i' j' hV'  h2 hk R2 => ?_) (fun z => absurd z hS) (fun _ z => absurd hc z)⟩
      obtain ⟨rfl, rfl, rfl⟩ := ask_uniq o.2.1 hV hV'
      skip
      exact (M1.ref hk R2 rfl rfl rfl rfl rfl r1 r2 r3).thrown e (fun h3 M3 => fin_ans rfl M3.2.2.1 (fun _ => updL_s) (N h3 (M3.inv o e)))
    · refine ⟨_, c4, c_sign M.1 ok (by omega) (by omega) (fun _ w i j hV  => absurd ⟨w, i, j, hV⟩ hc) (fun z => absurd z hS) (fun _ _ => ?_)⟩
      refine Or.inr ⟨rfl, p1, p2, p3, ?_⟩
      have M1 := M
      obtain ⟨r0, ab, be, pi, le, sg, wo, Q, R, r1, r2, r3⟩ := M1.2.1
      refine ⟨_, by rw [e]; exact R.1, q, _, _, _, _, _, _, _, _, _, _, _, _, e, r0, R, e_sign r2 r3 ok ok2 (fun _ w i j hV  => absurd ⟨w, i, j, hV⟩ hc) (fun z => absurd z hS) (fun _ _ h2 hk R2 => ?_)⟩
      exact (M1.ref hk R2 rfl rfl rfl rfl rfl r1 r2 r3).thrown e (fun h3 M3 => fin_ans rfl M3.2.2.1 (fun z => absurd z (by decide)) (N h3 (M3.inv o e)))
theorem l_pieces {h : xH} {x1 x2 x3 : Nat} {s : AS} (I : INV h x1 x2 x3 s) (y1 y2 y3 y4 : Int32) {mc ms : Nat} {nxt K K' : xH → Prop} {P1 P2 P3 P4 : Prop} (hmc : 600 ≤ mc) (hms : 3900 ≤ ms) (p1 : P1) (p2 : P2) (p3 : P3) (p4 : P4) (N : ∀ h', INV h' x1 x2 x3 s → nxt h') :
    wp_L_pieces h mc ms x1 y1 y2 y3 y4 x3 (fun r h1 => P1 ∧ P2 ∧ P3 ∧ P4 ∧ ∃ fs : List Value, h1 x2 = some (.inr (7, fs)) ∧ wp_A7_pieces h1 x2 y1 y2 y3 y4 (fun r2 h2 => ∃ fs : List Value, h2 x2 = some (.inr (7, fs)) ∧ wp_A7_thrown h2 x2 (fun r' h3 => (r' = r → (¬ r = 0 → nxt h3) ∧ (r = 0 → ∃ (n : Nat) (f : Nat → Int64), h3 x3 = some (.inl (1, n, .inr (.inl f))) ∧ vp_in 0 n ∧ (f (0 : Int32).toNatClampNeg = (r2 : Int32).toInt64 → nxt h3) ∧ (¬ f (0 : Int32).toNatClampNeg = (r2 : Int32).toInt64 → K' h3))) ∧ (¬ r' = r → K h3)))) := by
  obtain ⟨κ, V, q, f, th, M, o, e⟩ := I
  have C := M.1
  obtain ⟨c1, c2, c3, mo, t0, t1, t2, t3, t4, c4, -⟩ := C
  have ok := M.1.ok o
  have ok2 := M.1.ok2
  by_cases hS : askS s y1
  · refine ⟨_, c4, c_pieces M.1 ok (by omega) (by omega) (fun z => absurd hS z) (fun _ => ?_) (fun z => absurd hS z)⟩
    intro h1 C1 hl; refine Or.inl ⟨rfl, p1, p2, p3, p4, ?_⟩
    have M1 := M.cls C1 hl
    obtain ⟨r0, ab, be, pi, le, sg, wo, Q, R, r1, r2, r3⟩ := M1.2.1
    refine ⟨_, by rw [e]; exact R.1, q, _, _, _, _, _, _, _, _, _, _, _, _, e, r0, R, e_pieces r2 r3 ok ok2 (fun z => absurd hS z) (fun _ h2 hk R2 => ?_) (fun z => absurd hS z)⟩
    exact (M1.ref hk R2 rfl rfl rfl rfl rfl r1 r2 r3).thrown e (fun h3 M3 => fin_ans rfl M3.2.2.1 (fun z => absurd z (by decide)) (N h3 (M3.inv o e)))
  · by_cases hc : (∃ w i j, askV s y1 y2 y3 w i j) ∧ (y4 = 0 ∨ y4 = 1)
    · refine ⟨_, c4, c_pieces M.1 ok (by omega) (by omega) (fun _ w i j hV r hr h' C1 hl => ⟨1, f, (hl x3 (Or.inr rfl)).trans M.2.2.1, by unfold vp_in; decide, fun h2 e2 => ⟨p1, p2, p3, p4, ?_⟩⟩) (fun z => absurd z hS) (fun _ z => absurd hc z)⟩
      have M1 := (M.cls C1 hl).out e2
      obtain ⟨r0, ab, be, pi, le, sg, wo, Q, R, r1, r2, r3⟩ := M1.2.1
      refine ⟨_, by rw [e]; exact R.1, q, _, _, _, _, _, _, _, _, _, _, _, _, e, r0, R, e_pieces r2 r3 ok ok2 (fun _ w' i' j' hV' r' hr' h2 hk R2 => ?_) (fun z => absurd z hS) (fun _ z => absurd hc z)⟩
      obtain ⟨rfl, rfl, rfl⟩ := ask_uniq o.2.1 hV hV'
      obtain rfl : r' = r := by
        rcases hr with ⟨a1, a2⟩ | ⟨a1, a2⟩
        · rcases hr' with ⟨b1, b2⟩ | ⟨b1, b2⟩
          · rw [a2, b2]
          · rw [a1] at b1
            exact absurd b1 (by decide)
        · rcases hr' with ⟨b1, b2⟩ | ⟨b1, b2⟩
          · rw [a1] at b1
            exact absurd b1 (by decide)
          · rw [a2, b2]
      exact (M1.ref hk R2 rfl rfl rfl rfl rfl r1 r2 r3).thrown e (fun h3 M3 => fin_ans rfl M3.2.2.1 (fun _ => updL_s) (N h3 (M3.inv o e)))
    · refine ⟨_, c4, c_pieces M.1 ok (by omega) (by omega) (fun _ w i j hV r hr => absurd ⟨⟨w, i, j, hV⟩, hr.elim (fun z => Or.inl z.1) (fun z => Or.inr z.1)⟩ hc) (fun z => absurd z hS) (fun _ _ => ?_)⟩
      intro h1 C1 hl; refine Or.inr ⟨rfl, p1, p2, p3, p4, ?_⟩
      have M1 := M.cls C1 hl
      obtain ⟨r0, ab, be, pi, le, sg, wo, Q, R, r1, r2, r3⟩ := M1.2.1
      refine ⟨_, by rw [e]; exact R.1, q, _, _, _, _, _, _, _, _, _, _, _, _, e, r0, R, e_pieces r2 r3 ok ok2 (fun _ w i j hV r' hr' => absurd ⟨⟨w, i, j, hV⟩, hr'.elim (fun z => Or.inl z.1) (fun z => Or.inr z.1)⟩ hc) (fun z => absurd z hS) (fun _ _ h2 hk R2 => ?_)⟩
      exact (M1.ref hk R2 rfl rfl rfl rfl rfl r1 r2 r3).thrown e (fun h3 M3 => fin_ans rfl M3.2.2.1 (fun z => absurd z (by decide)) (N h3 (M3.inv o e)))
theorem l_piece {h : xH} {x1 x2 x3 : Nat} {s : AS} (I : INV h x1 x2 x3 s) (y1 y2 y3 y4 y5 : Int32) {mc ms : Nat} {nxt K K' : xH → Prop} {P1 P2 P3 P4 P5 : Prop} (hmc : 600 ≤ mc) (hms : 3900 ≤ ms) (p1 : P1) (p2 : P2) (p3 : P3) (p4 : P4) (p5 : P5) (N : ∀ h', INV h' x1 x2 x3 s → nxt h') :
    wp_L_piece h mc ms x1 y1 y2 y3 y4 y5 x3 (fun r h1 => P1 ∧ P2 ∧ P3 ∧ P4 ∧ P5 ∧ ∃ fs : List Value, h1 x2 = some (.inr (7, fs)) ∧ wp_A7_piece h1 x2 y1 y2 y3 y4 y5 (fun r2 h2 => ∃ fs : List Value, h2 x2 = some (.inr (7, fs)) ∧ wp_A7_thrown h2 x2 (fun r' h3 => (r' = r → (¬ r = 0 → nxt h3) ∧ (r = 0 → ∃ (n : Nat) (f : Nat → Int64), h3 x3 = some (.inl (1, n, .inr (.inl f))) ∧ vp_in 0 n ∧ (f (0 : Int32).toNatClampNeg = (r2 : Int32).toInt64 → nxt h3) ∧ (¬ f (0 : Int32).toNatClampNeg = (r2 : Int32).toInt64 → K' h3))) ∧ (¬ r' = r → K h3)))) := by
  obtain ⟨κ, V, q, f, th, M, o, e⟩ := I
  have C := M.1
  obtain ⟨c1, c2, c3, mo, t0, t1, t2, t3, t4, c4, -⟩ := C
  have ok := M.1.ok o
  have ok2 := M.1.ok2
  by_cases hS : askS s y1
  · refine ⟨_, c4, c_piece M.1 ok (by omega) (by omega) (fun z => absurd hS z) (fun _ => ?_) (fun z => absurd hS z)⟩
    intro h1 C1 hl; refine Or.inl ⟨rfl, p1, p2, p3, p4, p5, ?_⟩
    have M1 := M.cls C1 hl
    obtain ⟨r0, ab, be, pi, le, sg, wo, Q, R, r1, r2, r3⟩ := M1.2.1
    refine ⟨_, by rw [e]; exact R.1, q, _, _, _, _, _, _, _, _, _, _, _, _, e, r0, R, e_piece r2 r3 ok ok2 (fun z => absurd hS z) (fun _ h2 hk R2 => ?_) (fun z => absurd hS z)⟩
    exact (M1.ref hk R2 rfl rfl rfl rfl rfl r1 r2 r3).thrown e (fun h3 M3 => fin_ans rfl M3.2.2.1 (fun z => absurd z (by decide)) (N h3 (M3.inv o e)))
  · by_cases hc : (∃ w i j, askV s y1 y2 y3 w i j) ∧ (y4 = 0 ∨ y4 = 1) ∧ 0 ≤ y5
    · refine ⟨_, c4, c_piece M.1 ok (by omega) (by omega) (fun _ w i j hV k ek hk1 r hr h' C1 hl => ⟨1, f, (hl x3 (Or.inr rfl)).trans M.2.2.1, by unfold vp_in; decide, fun h2 e2 => ⟨p1, p2, p3, p4, p5, ?_⟩⟩) (fun z => absurd z hS) (fun _ z => absurd hc z)⟩
      have M1 := (M.cls C1 hl).out e2
      obtain ⟨r0, ab, be, pi, le, sg, wo, Q, R, r1, r2, r3⟩ := M1.2.1
      refine ⟨_, by rw [e]; exact R.1, q, _, _, _, _, _, _, _, _, _, _, _, _, e, r0, R, e_piece r2 r3 ok ok2 (fun _ w' i' j' hV' k' ek' hk1' r' hr' h2 hk R2 => ?_) (fun z => absurd z hS) (fun _ z => absurd hc z)⟩
      obtain ⟨rfl, rfl, rfl⟩ := ask_uniq o.2.1 hV hV'
      obtain rfl : k = k' := by
        rw [ek, nI_eq hk1 hk1'] at ek'
        exact ek'
      obtain rfl : r' = r := by
        rcases hr with ⟨a1, a2⟩ | ⟨a1, a2⟩
        · rcases hr' with ⟨b1, b2⟩ | ⟨b1, b2⟩
          · rw [a2, b2]
          · rw [a1] at b1
            exact absurd b1 (by decide)
        · rcases hr' with ⟨b1, b2⟩ | ⟨b1, b2⟩
          · rw [a1] at b1
            exact absurd b1 (by decide)
          · rw [a2, b2]
      exact (M1.ref hk R2 rfl rfl rfl rfl rfl r1 r2 r3).thrown e (fun h3 M3 => fin_ans rfl M3.2.2.1 (fun _ => updL_s) (N h3 (M3.inv o e)))
    · refine ⟨_, c4, c_piece M.1 ok (by omega) (by omega) (fun _ w i j hV k ek hk1 r hr => absurd ⟨⟨w, i, j, hV⟩, hr.elim (fun z => Or.inl z.1) (fun z => Or.inr z.1), nn_le ek hk1⟩ hc) (fun z => absurd z hS) (fun _ _ => ?_)⟩
      intro h1 C1 hl; refine Or.inr ⟨rfl, p1, p2, p3, p4, p5, ?_⟩
      have M1 := M.cls C1 hl
      obtain ⟨r0, ab, be, pi, le, sg, wo, Q, R, r1, r2, r3⟩ := M1.2.1
      refine ⟨_, by rw [e]; exact R.1, q, _, _, _, _, _, _, _, _, _, _, _, _, e, r0, R, e_piece r2 r3 ok ok2 (fun _ w i j hV k' ek' hk1' r' hr' => absurd ⟨⟨w, i, j, hV⟩, hr'.elim (fun z => Or.inl z.1) (fun z => Or.inr z.1), nn_le ek' hk1'⟩ hc) (fun z => absurd z hS) (fun _ _ h2 hk R2 => ?_)⟩
      exact (M1.ref hk R2 rfl rfl rfl rfl rfl r1 r2 r3).thrown e (fun h3 M3 => fin_ans rfl M3.2.2.1 (fun z => absurd z (by decide)) (N h3 (M3.inv o e)))
theorem l_scaled {h : xH} {x1 x2 x3 : Nat} {s : AS} (I : INV h x1 x2 x3 s) (y1 y2 y3 y4 : Int32) {mc ms : Nat} {nxt K K' : xH → Prop} {P1 P2 P3 P4 : Prop} (hmc : 600 ≤ mc) (hms : 3900 ≤ ms) (p1 : P1) (p2 : P2) (p3 : P3) (p4 : P4) (N : ∀ h', INV h' x1 x2 x3 s → nxt h') :
    wp_L_scaled h mc ms x1 y1 y2 y3 y4 x3 (fun r h1 => P1 ∧ P2 ∧ P3 ∧ P4 ∧ ∃ fs : List Value, h1 x2 = some (.inr (7, fs)) ∧ wp_A7_scaled h1 x2 y1 y2 y3 y4 (fun r2 h2 => ∃ fs : List Value, h2 x2 = some (.inr (7, fs)) ∧ wp_A7_thrown h2 x2 (fun r' h3 => (r' = r → (¬ r = 0 → nxt h3) ∧ (r = 0 → ∃ (n : Nat) (f : Nat → Int64), h3 x3 = some (.inl (1, n, .inr (.inl f))) ∧ vp_in 0 n ∧ (f (0 : Int32).toNatClampNeg = r2 → nxt h3) ∧ (¬ f (0 : Int32).toNatClampNeg = r2 → K' h3))) ∧ (¬ r' = r → K h3)))) := by
  obtain ⟨κ, V, q, f, th, M, o, e⟩ := I
  have C := M.1
  obtain ⟨c1, c2, c3, mo, t0, t1, t2, t3, t4, c4, -⟩ := C
  have ok := M.1.ok o
  have ok2 := M.1.ok2
  by_cases hS : askS s y1
  · refine ⟨_, c4, c_scaled M.1 ok (by omega) (by omega) (fun z => absurd hS z) (fun _ => ?_) (fun z => absurd hS z)⟩
    intro h1 C1 hl; refine Or.inl ⟨rfl, p1, p2, p3, p4, ?_⟩
    have M1 := M.cls C1 hl
    obtain ⟨r0, ab, be, pi, le, sg, wo, Q, R, r1, r2, r3⟩ := M1.2.1
    refine ⟨_, by rw [e]; exact R.1, q, _, _, _, _, _, _, _, _, _, _, _, _, e, r0, R, e_scaled r2 r3 ok ok2 (fun z => absurd hS z) (fun _ h2 hk R2 => ?_) (fun z => absurd hS z)⟩
    exact (M1.ref hk R2 rfl rfl rfl rfl rfl r1 r2 r3).thrown e (fun h3 M3 => fin_ans rfl M3.2.2.1 (fun z => absurd z (by decide)) (N h3 (M3.inv o e)))
  · by_cases hc : (∃ w i j, askV s y1 y2 y3 w i j) ∧ ¬ y4 < 1 ∧ y4 ≤ 1000000
    · refine ⟨_, c4, c_scaled M.1 ok (by omega) (by omega) (fun _ w i j hV g eg g1 g2 h' C1 hl => ⟨1, f, (hl x3 (Or.inr rfl)).trans M.2.2.1, by unfold vp_in; decide, fun h2 e2 => ⟨p1, p2, p3, p4, ?_⟩⟩) (fun z => absurd z hS) (fun _ z => absurd hc z)⟩
      have M1 := (M.cls C1 hl).out e2
      obtain ⟨r0, ab, be, pi, le, sg, wo, Q, R, r1, r2, r3⟩ := M1.2.1
      refine ⟨_, by rw [e]; exact R.1, q, _, _, _, _, _, _, _, _, _, _, _, _, e, r0, R, e_scaled r2 r3 ok ok2 (fun _ w' i' j' hV' g' eg' g1' g2' pi' le' wo' F' h2 hk R2 => ?_) (fun z => absurd z hS) (fun _ z => absurd hc z)⟩
      obtain ⟨rfl, rfl, rfl⟩ := ask_uniq o.2.1 hV hV'
      obtain rfl : g = g' := by
        rw [eg, nI_eq (by omega) (by omega)] at eg'
        exact eg'
      exact (M1.ref hk R2 rfl rfl rfl rfl rfl r1 F' r3).thrown e (fun h3 M3 => fin_ans rfl M3.2.2.1 (fun _ => updL_s) (N h3 (M3.inv o e)))
    · refine ⟨_, c4, c_scaled M.1 ok (by omega) (by omega) (fun _ w i j hV g eg g1 g2 => absurd ⟨⟨w, i, j, hV⟩, sc_rng eg g1 g2⟩ hc) (fun z => absurd z hS) (fun _ _ => ?_)⟩
      intro h1 C1 hl; refine Or.inr ⟨rfl, p1, p2, p3, p4, ?_⟩
      have M1 := M.cls C1 hl
      obtain ⟨r0, ab, be, pi, le, sg, wo, Q, R, r1, r2, r3⟩ := M1.2.1
      refine ⟨_, by rw [e]; exact R.1, q, _, _, _, _, _, _, _, _, _, _, _, _, e, r0, R, e_scaled r2 r3 ok ok2 (fun _ w i j hV g' eg' g1' g2' => absurd ⟨⟨w, i, j, hV⟩, sc_rng eg' g1' g2'⟩ hc) (fun z => absurd z hS) (fun _ _ h2 hk R2 => ?_)⟩
      exact (M1.ref hk R2 rfl rfl rfl rfl rfl r1 r2 r3).thrown e (fun h3 M3 => fin_ans rfl M3.2.2.1 (fun z => absurd z (by decide)) (N h3 (M3.inv o e)))
theorem l_compare {h : xH} {x1 x2 x3 : Nat} {s : AS} (I : INV h x1 x2 x3 s) (y1 y2 y3 y4 y5 : Int32) {mc ms : Nat} {nxt K K' : xH → Prop} {P1 P2 P3 P4 P5 : Prop} (hmc : 600 ≤ mc) (hms : 3900 ≤ ms) (p1 : P1) (p2 : P2) (p3 : P3) (p4 : P4) (p5 : P5) (N : ∀ h', INV h' x1 x2 x3 s → nxt h') :
    wp_L_compare h mc ms x1 y1 y2 y3 y4 y5 x3 (fun r h1 => P1 ∧ P2 ∧ P3 ∧ P4 ∧ P5 ∧ ∃ fs : List Value, h1 x2 = some (.inr (7, fs)) ∧ wp_A7_compare h1 x2 y1 y2 y3 y4 y5 (fun r2 h2 => ∃ fs : List Value, h2 x2 = some (.inr (7, fs)) ∧ wp_A7_thrown h2 x2 (fun r' h3 => (r' = r → (¬ r = 0 → nxt h3) ∧ (r = 0 → ∃ (n : Nat) (f : Nat → Int64), h3 x3 = some (.inl (1, n, .inr (.inl f))) ∧ vp_in 0 n ∧ (f (0 : Int32).toNatClampNeg = (r2 : Int32).toInt64 → nxt h3) ∧ (¬ f (0 : Int32).toNatClampNeg = (r2 : Int32).toInt64 → K' h3))) ∧ (¬ r' = r → K h3)))) := by
  obtain ⟨κ, V, q, f, th, M, o, e⟩ := I
  have C := M.1
  obtain ⟨c1, c2, c3, mo, t0, t1, t2, t3, t4, c4, -⟩ := C
  have ok := M.1.ok o
  have ok2 := M.1.ok2
  by_cases hS : askS s y1
  · refine ⟨_, c4, c_compare M.1 ok (by omega) (by omega) (fun z => absurd hS z) (fun _ => ?_) (fun z => absurd hS z)⟩
    intro h1 C1 hl; refine Or.inl ⟨rfl, p1, p2, p3, p4, p5, ?_⟩
    have M1 := M.cls C1 hl
    obtain ⟨r0, ab, be, pi, le, sg, wo, Q, R, r1, r2, r3⟩ := M1.2.1
    refine ⟨_, by rw [e]; exact R.1, q, _, _, _, _, _, _, _, _, _, _, _, _, e, r0, R, e_compare r2 r3 ok ok2 (fun z => absurd hS z) (fun _ h2 hk R2 => ?_) (fun z => absurd hS z)⟩
    exact (M1.ref hk R2 rfl rfl rfl rfl rfl r1 r2 r3).thrown e (fun h3 M3 => fin_ans rfl M3.2.2.1 (fun z => absurd z (by decide)) (N h3 (M3.inv o e)))
  · by_cases hc : (∃ w i j, askV s y1 y2 y3 w i j) ∧ ∃ a b, isFr y4 y5 a b
    · refine ⟨_, c4, c_compare M.1 ok (by omega) (by omega) (fun _ w i j hV a b hab h' C1 hl => ⟨1, f, (hl x3 (Or.inr rfl)).trans M.2.2.1, by unfold vp_in; decide, fun h2 e2 => ⟨p1, p2, p3, p4, p5, ?_⟩⟩) (fun z => absurd z hS) (fun _ z => absurd hc z)⟩
      have M1 := (M.cls C1 hl).out e2
      obtain ⟨r0, ab, be, pi, le, sg, wo, Q, R, r1, r2, r3⟩ := M1.2.1
      refine ⟨_, by rw [e]; exact R.1, q, _, _, _, _, _, _, _, _, _, _, _, _, e, r0, R, e_compare r2 r3 ok ok2 (fun _ w' i' j' hV' a' b' hab' pi' le' sg' wo' Q' F' q' h2 hk R2 => ?_) (fun z => absurd z hS) (fun _ z => absurd hc z)⟩
      obtain ⟨rfl, rfl, rfl⟩ := ask_uniq o.2.1 hV hV'
      obtain ⟨rfl, rfl⟩ := fr_uniq hab hab'
      exact (M1.ref hk R2 rfl rfl rfl rfl rfl r1 F' q').thrown e (fun h3 M3 => fin_ans rfl M3.2.2.1 (fun _ => updL_s) (N h3 (M3.inv o e)))
    · refine ⟨_, c4, c_compare M.1 ok (by omega) (by omega) (fun _ w i j hV a b hab => absurd ⟨⟨w, i, j, hV⟩, a, b, hab⟩ hc) (fun z => absurd z hS) (fun _ _ => ?_)⟩
      intro h1 C1 hl; refine Or.inr ⟨rfl, p1, p2, p3, p4, p5, ?_⟩
      have M1 := M.cls C1 hl
      obtain ⟨r0, ab, be, pi, le, sg, wo, Q, R, r1, r2, r3⟩ := M1.2.1
      refine ⟨_, by rw [e]; exact R.1, q, _, _, _, _, _, _, _, _, _, _, _, _, e, r0, R, e_compare r2 r3 ok ok2 (fun _ w i j hV a b hab => absurd ⟨⟨w, i, j, hV⟩, a, b, hab⟩ hc) (fun z => absurd z hS) (fun _ _ h2 hk R2 => ?_)⟩
      exact (M1.ref hk R2 rfl rfl rfl rfl rfl r1 r2 r3).thrown e (fun h3 M3 => fin_ans rfl M3.2.2.1 (fun z => absurd z (by decide)) (N h3 (M3.inv o e)))
theorem l_about {h : xH} {x1 x2 x3 : Nat} {s : AS} (I : INV h x1 x2 x3 s) (y1 : Int32) {nxt K : xH → Prop} {P1 : Prop} (p1 : P1) (N : ∀ h', INV h' x1 x2 x3 s → nxt h') :
    ∃ fs : List Value, h x1 = some (.inr (6, fs)) ∧ wp_X6_about h x1 y1 (fun r => P1 ∧ ∃ fs : List Value, h x2 = some (.inr (7, fs)) ∧ wp_A7_about h x2 y1 (fun r2 h2 => (r = r2 → nxt h2) ∧ (¬ r = r2 → K h2))) := by
  obtain ⟨κ, V, q, f, th, M, o, e⟩ := I
  have C := M.1
  obtain ⟨c1, c2, c3, mo, t0, t1, t2, t3, t4, c4, -⟩ := C
  have ok := M.1.ok o
  refine ⟨_, c4, c_about M.1 ok (fun r hr => ⟨p1, ?_⟩)⟩
  obtain ⟨r0, ab, be, pi, le, sg, wo, Q, R, r1, r2, r3⟩ := M.2.1
  refine ⟨_, by rw [e]; exact R.1, q, _, _, _, _, _, _, _, _, _, _, _, _, e, r0, R, e_about ok (fun r' hr' h2 hk R2 => ?_)⟩
  exact fin_0 (by rw [hr, hr']) (N h2 ((M.ref hk R2 rfl rfl rfl rfl rfl r1 r2 r3).inv o e))
