/-! ===== one call of the law's script, on both sides (own work) ===== -/
theorem fr_uniq {x y : Int32} {a a' : Int} {b b' : Nat} (h : isFr x y a b) (h' : isFr x y a' b') : a' = a ∧ b' = b := by
  obtain ⟨e1, e2, e3, e4, e5⟩ := h
  obtain ⟨d1, d2, d3, d4, d5⟩ := h'
  rw [e1, iI_eq (by omega) (by omega)] at d1
  rw [e2, nI_eq (by omega) (by omega)] at d2
  exact ⟨d1.symm, d2.symm⟩
theorem ask_uniq {s : AS} {y1 y2 y3 : Int32} {w i j w' i' j' : Nat} (n2 : s.n ≤ 2) (h : askV s y1 y2 y3 w i j) (h' : askV s y1 y2 y3 w' i' j') : w' = w ∧ i' = i ∧ j' = j := by
  obtain ⟨e1, e2, e3, e4, e5, e6⟩ := h
  obtain ⟨d1, d2, d3, d4, d5, d6⟩ := h'
  have r2 : ∀ w, s.rv w ≤ 2 := fun w => by unfold AS.rv; split <;> omega
  have c2 : ∀ w, s.cv w ≤ 2 := fun w => by unfold AS.cv; split <;> omega
  have := r2 w
  have := r2 w'
  have := c2 w
  have := c2 w'
  rw [e1, nI_eq (by omega) (by omega)] at d1
  rw [e2, nI_eq (by omega) (by omega)] at d2
  rw [e3, nI_eq (by omega) (by omega)] at d3
  exact ⟨d1.symm, d2.symm, d3.symm⟩
theorem fin_0 {th r : Int32} {nxt K : Prop} (e : th = r) (N : nxt) : (th = r → nxt) ∧ (¬ th = r → K) := ⟨fun _ => N, fun z => absurd e z⟩
theorem fin_ans {h : xH} {x3 : Nat} {f : Nat → Int64} {th r : Int32} {A : Int64} {nxt K K' : Prop} (e : th = r) (ho : h x3 = some (.inl (1, 1, .inr (.inl f)))) (hA : r = 0 → f (0 : Int32).toNatClampNeg = A) (N : nxt) :
    (th = r → (¬ r = 0 → nxt) ∧ (r = 0 → ∃ (n : Nat) (f : Nat → Int64), h x3 = some (.inl (1, n, .inr (.inl f))) ∧ vp_in 0 n ∧ (f (0 : Int32).toNatClampNeg = A → nxt) ∧ (¬ f (0 : Int32).toNatClampNeg = A → K'))) ∧ (¬ th = r → K) :=
  ⟨fun _ => ⟨fun _ => N, fun z => ⟨1, f, ho, by unfold vp_in; decide, fun _ => N, fun y => absurd (hA z) y⟩⟩, fun z => absurd e z⟩
theorem updL_s {f : Nat → Int64} {k : Nat} {v : Int64} : vp_updL f k v k = v := by simp [vp_updL]
theorem MID.inv {κ : Nat → Option Nat} {V : vT} {q : Nat → Nat} {h : xH} {x1 x2 x3 : Nat} {f : Nat → Int64} {th : Int32} {s : AS} (M : MID κ V q h x1 x3 f th s s) (o : s.okb) (e : x2 = q 0) : INV h x1 x2 x3 s := ⟨κ, V, q, f, th, M, o, e⟩
theorem l_begin {h : xH} {x1 x2 x3 : Nat} {s : AS} (I : INV h x1 x2 x3 s) (y : Int32) : ∃ s', pot s' ≤ pot s ∧ ∀ {mc ms : Nat} {nxt K : xH → Prop} {P1 : Prop}, 600 ≤ mc → 3900 + (pot s - pot s') ≤ ms → P1 → (∀ h', INV h' x1 x2 x3 s' → nxt h') →
    wp_L_begin h mc ms x1 y (fun r h1 => P1 ∧ ∃ fs : List Value, h1 x2 = some (.inr (7, fs)) ∧ wp_A7_begin h1 x2 y (fun h2 => ∃ fs : List Value, h2 x2 = some (.inr (7, fs)) ∧ wp_A7_thrown h2 x2 (fun r' h3 => (r' = r → nxt h3) ∧ (¬ r' = r → K h3)))) := by
  obtain ⟨κ, V, q, f, th, M, o, e⟩ := I
  have C := M.1
  obtain ⟨c1, c2, c3, mo, t0, t1, t2, t3, t4, c4, -⟩ := C
  have o2 := o
  obtain ⟨o1, o2', o3, o4, -⟩ := o2
  by_cases hy : ∃ n, y = nI n ∧ 1 ≤ n ∧ n ≤ 2
  · obtain ⟨n, rfl, n1, n2⟩ := hy
    refine ⟨sBegin s n, ?_, fun {mc ms nxt K P1} hmc hms hP N => ⟨_, c4, c_begin M.1 n1 n2 (by omega) (by omega) (fun κ' V' h1 C1 hl => ⟨hP, ?_⟩)⟩⟩
    · unfold pot
      show (24 - s.ss) * 147500 + (if (0 : Nat) = 1 then _ else 0) ≤ _
      rw [if_neg (by decide)]
      omega
    have M1 := M.cls C1 hl
    obtain ⟨r0, ab, be, pi, le, sg, wo, Q, R, r1, r2, r3⟩ := M1.2.1
    refine ⟨_, by rw [e]; exact R.1, q, _, _, _, _, _, _, _, _, _, _, _, _, e, r0, R, e_begin (fun n' en' n1' n2' ab' be' MD' h2 hk R2 => ?_) (fun z => absurd ⟨n, rfl, n1, n2⟩ z)⟩
    obtain rfl : n = n' := by
      rw [nI_eq (by omega) (by omega)] at en'
      exact en'
    refine (M1.ref (t' := sBegin s n) hk R2 rfl rfl rfl rfl rfl MD' r2 (fun z => absurd (show (0 : Nat) = 1 from z) (by decide))).thrown e (fun h3 M3 => fin_0 rfl (N h3 (M3.inv (okb_begin o n1 n2) e)))
  · refine ⟨s, Nat.le_refl _, fun {mc ms nxt K P1} hmc hms hP N => ⟨_, c4, ⟨fun z => absurd ⟨1, z, by decide, by decide⟩ hy, fun _ => ⟨fun z => absurd ⟨2, z, by decide, by decide⟩ hy, fun _ => ⟨by omega, by omega, rfl, hP, ?_⟩⟩⟩⟩⟩
    obtain ⟨r0, ab, be, pi, le, sg, wo, Q, R, r1, r2, r3⟩ := M.2.1
    refine ⟨_, by rw [e]; exact R.1, q, _, _, _, _, _, _, _, _, _, _, _, _, e, r0, R, e_begin (fun n' en' n1' n2' => absurd ⟨n', en', n1', n2'⟩ hy) (fun z h2 hk R2 => ?_)⟩
    exact (M.ref hk R2 rfl rfl rfl rfl rfl r1 r2 r3).thrown e (fun h3 M3 => fin_0 rfl (N h3 (M3.inv o e)))
theorem l_set {h : xH} {x1 x2 x3 : Nat} {s : AS} (I : INV h x1 x2 x3 s) (y1 y2 y3 y4 y5 : Int32) : ∃ s', pot s' ≤ pot s ∧ ∀ {mc ms : Nat} {nxt K : xH → Prop} {P1 P2 P3 P4 P5 : Prop}, 600 ≤ mc → 3900 + (pot s - pot s') ≤ ms → P1 → P2 → P3 → P4 → P5 → (∀ h', INV h' x1 x2 x3 s' → nxt h') →
    wp_L_set h mc ms x1 y1 y2 y3 y4 y5 (fun r h1 => P1 ∧ P2 ∧ P3 ∧ P4 ∧ P5 ∧ ∃ fs : List Value, h1 x2 = some (.inr (7, fs)) ∧ wp_A7_set h1 x2 y1 y2 y3 y4 y5 (fun h2 => ∃ fs : List Value, h2 x2 = some (.inr (7, fs)) ∧ wp_A7_thrown h2 x2 (fun r' h3 => (r' = r → nxt h3) ∧ (¬ r' = r → K h3)))) := by
  obtain ⟨κ, V, q, f, th, M, o, e⟩ := I
  have C := M.1
  obtain ⟨c1, c2, c3, mo, t0, t1, t2, t3, t4, c4, -⟩ := C
  have ok := M.1.ok o
  have o2 := o
  obtain ⟨n1, n2, -⟩ := o2
  by_cases hc : hasM s.n y1 y2 y3 ∧ ∃ a b, isFr y4 y5 a b
  · have hc' := hc
    obtain ⟨⟨k, i, j, e1, e2, e3, hk, hi, hj⟩, a, b, hab⟩ := hc'
    have rr2 := (rk_le (k := k) n1 n2).2
    have cc2 := (ck_le (k := k) n1 n2).2
    have uq : ∀ k' i' j' a' b', y1 = nI k' → y2 = nI i' → y3 = nI j' → k' < 7 → i' < rk s.n k' → j' < ck s.n k' → isFr y4 y5 a' b' → k' = k ∧ i' = i ∧ j' = j ∧ a' = a ∧ b' = b := by
      intro k' i' j' a' b' d1 d2 d3 hk' hi' hj' hab'
      have := (rk_le (k := k') n1 n2).2
      have := (ck_le (k := k') n1 n2).2
      rw [e1, nI_eq (by omega) (by omega)] at d1
      rw [e2, nI_eq (by omega) (by omega)] at d2
      rw [e3, nI_eq (by omega) (by omega)] at d3
      obtain ⟨u1, u2⟩ := fr_uniq hab hab'
      exact ⟨d1.symm, d2.symm, d3.symm, u1, u2⟩
    obtain ⟨-, -, f3, f4, f5⟩ := id hab
    refine ⟨sSet s k i j a b, Nat.le_refl _, fun {mc ms nxt K P1 P2 P3 P4 P5} hmc hms h1 h2 h3 h4 h5 N => ⟨_, c4, c_set M.1 ok (by omega) (by omega) (fun k' i' j' a' b' d1 d2 d3 hk' hi' hj' hab' h' C1 hl => ?_) (fun z => absurd hc z)⟩⟩
    obtain ⟨rfl, rfl, rfl, rfl, rfl⟩ := uq k' i' j' a' b' d1 d2 d3 hk' hi' hj' hab'
    refine ⟨h1, h2, h3, h4, h5, ?_⟩
    have M1 := M.cls C1 hl
    obtain ⟨r0, ab, be, pi, le, sg, wo, Q, R, r1, r2, r3⟩ := M1.2.1
    refine ⟨_, by rw [e]; exact R.1, q, _, _, _, _, _, _, _, _, _, _, _, _, e, r0, R, e_set r1 n1 n2 (fun k2 i2 j2 a2 b2 d1 d2 d3 hk2 hi2 hj2 hab2 ab' be' MD' h2 hk3 R2 => ?_) (fun z => absurd hc z)⟩
    obtain ⟨rfl, rfl, rfl, rfl, rfl⟩ := uq k2 i2 j2 a2 b2 d1 d2 d3 hk2 hi2 hj2 hab2
    refine (M1.ref (t' := sSet s k2 i2 j2 a2 b2) hk3 R2 rfl rfl rfl rfl rfl MD' r2 r3).thrown e (fun h3 M3 => fin_0 rfl (N h3 (M3.inv (okb_set o (by omega) (by omega) f3 f4 f5) e)))
  · refine ⟨s, Nat.le_refl _, fun {mc ms nxt K P1 P2 P3 P4 P5} hmc hms h1 h2 h3 h4 h5 N => ⟨_, c4, c_set M.1 ok (by omega) (by omega) (fun k' i' j' a' b' d1 d2 d3 hk' hi' hj' hab' => absurd ⟨⟨k', i', j', d1, d2, d3, hk', hi', hj'⟩, a', b', hab'⟩ hc) (fun _ => ⟨rfl, h1, h2, h3, h4, h5, ?_⟩)⟩⟩
    obtain ⟨r0, ab, be, pi, le, sg, wo, Q, R, r1, r2, r3⟩ := M.2.1
    refine ⟨_, by rw [e]; exact R.1, q, _, _, _, _, _, _, _, _, _, _, _, _, e, r0, R, e_set r1 n1 n2 (fun k' i' j' a' b' d1 d2 d3 hk' hi' hj' hab' => absurd ⟨⟨k', i', j', d1, d2, d3, hk', hi', hj'⟩, a', b', hab'⟩ hc) (fun _ h2 hk R2 => ?_)⟩
    exact (M.ref hk R2 rfl rfl rfl rfl rfl r1 r2 r3).thrown e (fun h3 M3 => fin_0 rfl (N h3 (M3.inv o e)))
theorem l_start {h : xH} {x1 x2 x3 : Nat} {s : AS} (I : INV h x1 x2 x3 s) : ∃ s', pot s' ≤ pot s ∧ ∀ {mc ms : Nat} {nxt K : xH → Prop}, 600 ≤ mc → 3900 + (pot s - pot s') ≤ ms → (∀ h', INV h' x1 x2 x3 s' → nxt h') →
    wp_L_start h mc ms x1 (fun r h1 => ∃ fs : List Value, h1 x2 = some (.inr (7, fs)) ∧ wp_A7_start h1 x2 (fun h2 => ∃ fs : List Value, h2 x2 = some (.inr (7, fs)) ∧ wp_A7_thrown h2 x2 (fun r' h3 => (r' = r → nxt h3) ∧ (¬ r' = r → K h3)))) := by
  obtain ⟨κ, V, q, f, th, M, o, e⟩ := I
  have C := M.1
  obtain ⟨c1, c2, c3, mo, t0, t1, t2, t3, t4, c4, -⟩ := C
  have ok := M.1.ok o
  by_cases hc : fitP s.n 1 s.an s.ad ∧ s.ss < 24
  · refine ⟨sStart s, ?_, fun {mc ms nxt K} hmc hms N => ⟨_, c4, c_start M.1 ok (by omega) (by omega) (fun _ _ V' h1 C1 hl => ?_) (fun z => absurd hc z)⟩⟩
    · have h24 := hc.2
      unfold pot
      show (24 - (s.ss + 1)) * 147500 + (if (1 : Nat) = 1 then (4 - 0) * 11000 + (3 - 0) * 34500 else 0) ≤ _
      rw [if_pos rfl]
      omega
    have M1 := M.cls C1 hl
    obtain ⟨r0, ab, be, pi, le, sg, wo, Q, R, r1, r2, r3⟩ := M1.2.1
    refine ⟨_, by rw [e]; exact R.1, q, _, _, _, _, _, _, _, _, _, _, _, _, e, r0, R, e_start r1 r2 ok (fun _ _ pi' le' sg' wo' Q' F' q' h2 hk R2 => ?_) (fun z => absurd hc z)⟩
    exact (M1.ref (t' := sStart s) hk R2 rfl rfl rfl rfl rfl r1 F' q').thrown e (fun h3 M3 => fin_0 rfl (N h3 (M3.inv (okb_start o hc.1 hc.2) e)))
  · refine ⟨s, Nat.le_refl _, fun {mc ms nxt K} hmc hms N => ⟨_, c4, c_start M.1 ok (by omega) (by omega) (fun z1 z2 => absurd ⟨z1, z2⟩ hc) (fun _ => ⟨rfl, ?_⟩)⟩⟩
    obtain ⟨r0, ab, be, pi, le, sg, wo, Q, R, r1, r2, r3⟩ := M.2.1
    refine ⟨_, by rw [e]; exact R.1, q, _, _, _, _, _, _, _, _, _, _, _, _, e, r0, R, e_start r1 r2 ok (fun z1 z2 => absurd ⟨z1, z2⟩ hc) (fun _ h2 hk R2 => ?_)⟩
    exact (M.ref hk R2 rfl rfl rfl rfl rfl r1 r2 r3).thrown e (fun h3 M3 => fin_0 rfl (N h3 (M3.inv o e)))
theorem l_predict {h : xH} {x1 x2 x3 : Nat} {s : AS} (I : INV h x1 x2 x3 s) : ∃ s', pot s' ≤ pot s ∧ ∀ {mc ms : Nat} {nxt K K' : xH → Prop}, 600 ≤ mc → 3900 + (pot s - pot s') ≤ ms → (∀ h', INV h' x1 x2 x3 s' → nxt h') →
    wp_L_predict h mc ms x1 x3 (fun r h1 => ∃ fs : List Value, h1 x2 = some (.inr (7, fs)) ∧ wp_A7_predict h1 x2 (fun r2 h2 => ∃ fs : List Value, h2 x2 = some (.inr (7, fs)) ∧ wp_A7_thrown h2 x2 (fun r' h3 => (r' = r → (¬ r = 0 → nxt h3) ∧ (r = 0 → ∃ (n : Nat) (f : Nat → Int64), h3 x3 = some (.inl (1, n, .inr (.inl f))) ∧ vp_in 0 n ∧ (f (0 : Int32).toNatClampNeg = (r2 : Int32).toInt64 → nxt h3) ∧ (¬ f (0 : Int32).toNatClampNeg = (r2 : Int32).toInt64 → K' h3))) ∧ (¬ r' = r → K h3)))) := by
  obtain ⟨κ, V, q, f, th, M, o, e⟩ := I
  have C := M.1
  obtain ⟨c1, c2, c3, mo, t0, t1, t2, t3, t4, c4, -⟩ := C
  have ok := M.1.ok o
  by_cases hc : s.sd = 1 ∧ fitP s.n 4 s.an s.ad ∧ s.p < 4
  · have hp : pot (sPred s) + 11000 = pot s := by
      unfold pot
      show (24 - s.ss) * 147500 + (if s.sd = 1 then (4 - (s.p + 1)) * 11000 + (3 - s.m) * 34500 else 0) + 11000 = _
      rw [if_pos hc.1, if_pos hc.1]
      have := hc.2.2
      omega
    refine ⟨sPred s, by omega, fun {mc ms nxt K K'} hmc hms N => ⟨_, c4, c_predict M.1 ok (by omega) (by omega) (fun _ _ _ => ⟨by omega, by omega, fun V' h1 C1 hl => ⟨1, f, (hl x3 (Or.inr rfl)).trans M.2.2.1, by unfold vp_in; decide, fun h2 e2 => ?_⟩⟩) (fun z => absurd hc z)⟩⟩
    have M1 := (M.cls C1 hl).out e2
    obtain ⟨r0, ab, be, pi, le, sg, wo, Q, R, r1, r2, r3⟩ := M1.2.1
    refine ⟨_, by rw [e]; exact R.1, q, _, _, _, _, _, _, _, _, _, _, _, _, e, r0, R, e_predict r1 r2 r3 ok (fun _ _ _ pi' le' sg' wo' Q' F' q' h2 hk R2 => ?_) (fun z => absurd hc z)⟩
    exact (M1.ref (t' := sPred s) hk R2 rfl rfl rfl rfl rfl r1 F' q').thrown e (fun h3 M3 => fin_ans rfl M3.2.2.1 (fun _ => updL_s) (N h3 (M3.inv (okb_pred o hc.1 hc.2.1 hc.2.2) e)))
  · refine ⟨s, Nat.le_refl _, fun {mc ms nxt K K'} hmc hms N => ⟨_, c4, c_predict M.1 ok (by omega) (by omega) (fun z1 z2 z3 => absurd ⟨z1, z2, z3⟩ hc) (fun _ => ⟨rfl, ?_⟩)⟩⟩
    obtain ⟨r0, ab, be, pi, le, sg, wo, Q, R, r1, r2, r3⟩ := M.2.1
    refine ⟨_, by rw [e]; exact R.1, q, _, _, _, _, _, _, _, _, _, _, _, _, e, r0, R, e_predict r1 r2 r3 ok (fun z1 z2 z3 => absurd ⟨z1, z2, z3⟩ hc) (fun _ h2 hk R2 => ?_)⟩
    exact (M.ref hk R2 rfl rfl rfl rfl rfl r1 r2 r3).thrown e (fun h3 M3 => fin_ans rfl M3.2.2.1 (fun z => absurd z (by decide)) (N h3 (M3.inv o e)))
theorem l_measure {h : xH} {x1 x2 x3 : Nat} {s : AS} (I : INV h x1 x2 x3 s) (y1 y2 : Int32) : ∃ s', pot s' ≤ pot s ∧ ∀ {mc ms : Nat} {nxt K K' : xH → Prop} {P1 P2 : Prop}, 600 ≤ mc → 3900 + (pot s - pot s') ≤ ms → P1 → P2 → (∀ h', INV h' x1 x2 x3 s' → nxt h') →
    wp_L_measure h mc ms x1 y1 y2 x3 (fun r h1 => P1 ∧ P2 ∧ ∃ fs : List Value, h1 x2 = some (.inr (7, fs)) ∧ wp_A7_measure h1 x2 y1 y2 (fun r2 h2 => ∃ fs : List Value, h2 x2 = some (.inr (7, fs)) ∧ wp_A7_thrown h2 x2 (fun r' h3 => (r' = r → (¬ r = 0 → nxt h3) ∧ (r = 0 → ∃ (n : Nat) (f : Nat → Int64), h3 x3 = some (.inl (1, n, .inr (.inl f))) ∧ vp_in 0 n ∧ (f (0 : Int32).toNatClampNeg = (r2 : Int32).toInt64 → nxt h3) ∧ (¬ f (0 : Int32).toNatClampNeg = (r2 : Int32).toInt64 → K' h3))) ∧ (¬ r' = r → K h3)))) := by
  obtain ⟨κ, V, q, f, th, M, o, e⟩ := I
  have C := M.1
  obtain ⟨c1, c2, c3, mo, t0, t1, t2, t3, t4, c4, -⟩ := C
  have ok := M.1.ok o
  by_cases ha : ∃ a b, isFr y1 y2 a b
  · by_cases hc : s.sd = 1 ∧ fitP 1 6 s.an s.ad ∧ s.m < 3
    · by_cases hs : sv s.H s.P s.R s.n = 0
      · refine ⟨s, Nat.le_refl _, fun {mc ms nxt K K' P1 P2} hmc hms h1 h2 N => ⟨_, c4, c_measure M.1 ok (by omega) (by omega) (fun _ _ _ _ _ _ z => absurd hs z) (fun z => absurd ha z) (fun _ z => absurd hc z) (fun _ _ _ _ _ h' C1 hl => Or.inr (Or.inr ⟨rfl, h1, h2, ?_⟩))⟩⟩
        have M1 := M.cls C1 hl
        obtain ⟨r0, ab, be, pi, le, sg, wo, Q, R, r1, r2, r3⟩ := M1.2.1
        refine ⟨_, by rw [e]; exact R.1, q, _, _, _, _, _, _, _, _, _, _, _, _, e, r0, R, e_measure r1 r2 r3 ok (fun _ _ _ _ _ _ z => absurd hs z) (fun z => absurd ha z) (fun _ z => absurd hc z) (fun _ _ _ _ _ pi' le' sg' wo' Q' F' q' h2 hk R2 => ?_)⟩
        exact (M1.ref hk R2 rfl rfl rfl rfl rfl r1 F' q').thrown e (fun h3 M3 => fin_ans rfl M3.2.2.1 (fun z => absurd z (by decide)) (N h3 (M3.inv o e)))
      · obtain ⟨a, b, hab⟩ := id ha
        have hp : pot (sMeas s (mkRat a b)) + 34500 = pot s := by
          unfold pot
          show (24 - s.ss) * 147500 + (if s.sd = 1 then (4 - s.p) * 11000 + (3 - (s.m + 1)) * 34500 else 0) + 34500 = _
          rw [if_pos hc.1, if_pos hc.1]
          have := hc.2.2
          omega
        refine ⟨sMeas s (mkRat a b), by omega, fun {mc ms nxt K K' P1 P2} hmc hms h1 h2 N => ⟨_, c4, c_measure M.1 ok (by omega) (by omega) (fun a' b' hab' _ _ _ _ => ⟨by omega, by omega, fun V' h' C1 hl => ⟨1, f, (hl x3 (Or.inr rfl)).trans M.2.2.1, by unfold vp_in; decide, fun h2' e2 => ⟨h1, h2, ?_⟩⟩⟩) (fun z => absurd ha z) (fun _ z => absurd hc z) (fun _ _ _ _ z => absurd z hs)⟩⟩
        obtain ⟨rfl, rfl⟩ := fr_uniq hab hab'
        have M1 := (M.cls C1 hl).out e2
        obtain ⟨r0, ab, be, pi, le, sg, wo, Q, R, r1, r2, r3⟩ := M1.2.1
        refine ⟨_, by rw [e]; exact R.1, q, _, _, _, _, _, _, _, _, _, _, _, _, e, r0, R, e_measure r1 r2 r3 ok (fun a2 b2 hab2 _ _ _ _ pi' le' sg' wo' Q' F' q' h2 hk R2 => ?_) (fun z => absurd ha z) (fun _ z => absurd hc z) (fun _ _ _ _ z => absurd z hs)⟩
        obtain ⟨rfl, rfl⟩ := fr_uniq hab' hab2
        exact (M1.ref (t' := sMeas s (mkRat a2 b2)) hk R2 rfl rfl rfl rfl rfl r1 F' q').thrown e (fun h3 M3 => fin_ans rfl M3.2.2.1 (fun _ => updL_s) (N h3 (M3.inv (okb_meas o hc.1 hc.2.1 hc.2.2 hs) e)))
    · refine ⟨s, Nat.le_refl _, fun {mc ms nxt K K' P1 P2} hmc hms h1 h2 N => ⟨_, c4, c_measure M.1 ok (by omega) (by omega) (fun _ _ _ z1 z2 z3 => absurd ⟨z1, z2, z3⟩ hc) (fun z => absurd ha z) (fun _ _ => Or.inr (Or.inl ⟨rfl, h1, h2, ?_⟩)) (fun _ z1 z2 z3 => absurd ⟨z1, z2, z3⟩ hc)⟩⟩
      obtain ⟨r0, ab, be, pi, le, sg, wo, Q, R, r1, r2, r3⟩ := M.2.1
      refine ⟨_, by rw [e]; exact R.1, q, _, _, _, _, _, _, _, _, _, _, _, _, e, r0, R, e_measure r1 r2 r3 ok (fun _ _ _ z1 z2 z3 => absurd ⟨z1, z2, z3⟩ hc) (fun z => absurd ha z) (fun _ _ h2 hk R2 => ?_) (fun _ z1 z2 z3 => absurd ⟨z1, z2, z3⟩ hc)⟩
      exact (M.ref hk R2 rfl rfl rfl rfl rfl r1 r2 r3).thrown e (fun h3 M3 => fin_ans rfl M3.2.2.1 (fun z => absurd z (by decide)) (N h3 (M3.inv o e)))
  · refine ⟨s, Nat.le_refl _, fun {mc ms nxt K K' P1 P2} hmc hms h1 h2 N => ⟨_, c4, c_measure M.1 ok (by omega) (by omega) (fun a b z => absurd ⟨a, b, z⟩ ha) (fun _ => Or.inl ⟨rfl, h1, h2, ?_⟩) (fun z => absurd z ha) (fun z => absurd z ha)⟩⟩
    obtain ⟨r0, ab, be, pi, le, sg, wo, Q, R, r1, r2, r3⟩ := M.2.1
    refine ⟨_, by rw [e]; exact R.1, q, _, _, _, _, _, _, _, _, _, _, _, _, e, r0, R, e_measure r1 r2 r3 ok (fun a b z => absurd ⟨a, b, z⟩ ha) (fun _ h2 hk R2 => ?_) (fun z => absurd z ha) (fun z => absurd z ha)⟩
    exact (M.ref hk R2 rfl rfl rfl rfl rfl r1 r2 r3).thrown e (fun h3 M3 => fin_ans rfl M3.2.2.1 (fun z => absurd z (by decide)) (N h3 (M3.inv o e)))
