/-! ===== the reference's public methods over the state: what is asked (own work) ===== -/
def AS.ok2 (s : AS) : Prop := s.sd = 1 → 0 < s.m → Rp s.Z 1 2560 ∧ Rp s.S 1 2560 ∧ Rp s.K s.n 2560
theorem CI.ok2 {κ : Nat → Option Nat} {V : vT} {S : Nat → Prop} {h : xH} {x1 : Nat} {s : AS} (C : CI κ V S h x1 s) : s.ok2 := by
  obtain ⟨c1, c2, c3, mo, t0, t1, t2, t3, t4, c4, c5, c6, c7⟩ := C
  intro h1 h2
  obtain ⟨d1, d2, d3⟩ := c7 h1 h2
  obtain ⟨q1, e1⟩ := d1.tq
  obtain ⟨q2, e2⟩ := d2.tq
  obtain ⟨q3, e3⟩ := d3.tq
  refine ⟨e1.rp, e2.rp, ?_⟩
  have := e3.rp
  rw [Nat.mul_one] at this
  exact this
def fx (w i j : Nat) : Nat := match w with
  | 0 => i
  | 1 => 2 + 2 * i + j
  | 2 => 6
  | 3 => 7
  | _ => 8 + i
theorem fx_ok {s : AS} {Q : Nat → Option Rat} {y1 y2 y3 : Int32} {w i j : Nat} (ok : s.ok) (ok2 : s.ok2) (hQ : RQ s Q) (hS : ¬ askS s y1) (hV : askV s y1 y2 y3 w i j) : fx w i j < 24 ∧ fx w i j ≤ 9 ∧ Q (fx w i j) = some (s.val w i j) ∧ sz (s.val w i j) 160 := by
  obtain ⟨n1, n2, o3, o4, o5, o6, o7, o8, o9⟩ := ok
  obtain ⟨e1, e2, e3, hw, hi, hj⟩ := hV
  have sd1 : s.sd = 1 := by
    rcases (show s.sd = 0 ∨ s.sd = 1 by omega) with z | z
    · exact absurd (Or.inl z) hS
    · exact z
  obtain ⟨q1, q2, q3⟩ := hQ sd1
  obtain ⟨rX, rP, -⟩ := o9 sd1
  obtain ⟨b1, b2⟩ := bits_all s.p (by omega) s.m (by omega)
  have hm : 2 ≤ w → 0 < s.m := by
    intro h2
    rcases Nat.eq_zero_or_pos s.m with z | z
    · refine absurd (Or.inr ⟨z, ?_, ?_⟩) hS
      · rw [e1, nI_iI, iI_toInt (by omega) (by omega)]
        omega
      · rw [e1, nI_iI, iI_toInt (by omega) (by omega)]
        omega
    · exact z
  have : w = 0 ∨ w = 1 ∨ w = 2 ∨ w = 3 ∨ w = 4 := by omega
  rcases this with rfl | rfl | rfl | rfl | rfl
  · have hi : i < s.n := hi
    have hj : j < 1 := hj
    obtain rfl : j = 0 := by omega
    have ev : s.val 0 i 0 = s.X i := by
      show s.X (i * 1 + 0) = _
      rw [Nat.mul_one, Nat.add_zero]
    rw [ev]
    exact ⟨(by show i < 24; omega), (by show i ≤ 9; omega), q1 i hi, rp_sz rX b1 hi⟩
  · have hi : i < s.n := hi
    have hj : j < s.n := hj
    exact ⟨(by show 2 + 2 * i + j < 24; omega), (by show 2 + 2 * i + j ≤ 9; omega), q2 i j hi hj, rp_sz (v := s.P) (x := i * s.n + j) rP b2 (ix' hi hj)⟩
  · have hi : i < 1 := hi
    have hj : j < 1 := hj
    obtain rfl : j = 0 := by omega
    obtain rfl : i = 0 := by omega
    obtain ⟨z1, z2, z3⟩ := q3 (hm (by decide))
    obtain ⟨r1, r2, r3⟩ := ok2 sd1 (hm (by decide))
    exact ⟨(by decide), (by decide), z1, rp_sz (v := s.Z) (x := 0) r1 (by decide) (by decide)⟩
  · have hi : i < 1 := hi
    have hj : j < 1 := hj
    obtain rfl : j = 0 := by omega
    obtain rfl : i = 0 := by omega
    obtain ⟨z1, z2, z3⟩ := q3 (hm (by decide))
    obtain ⟨r1, r2, r3⟩ := ok2 sd1 (hm (by decide))
    exact ⟨(by decide), (by decide), z2, rp_sz (v := s.S) (x := 0) r2 (by decide) (by decide)⟩
  · have hi : i < s.n := hi
    have hj : j < 1 := hj
    obtain rfl : j = 0 := by omega
    obtain ⟨z1, z2, z3⟩ := q3 (hm (by decide))
    obtain ⟨r1, r2, r3⟩ := ok2 sd1 (hm (by decide))
    have ev : s.val 4 i 0 = s.K i := by
      show s.K (i * 1 + 0) = _
      rw [Nat.mul_one, Nat.add_zero]
    rw [ev]
    exact ⟨(by show 8 + i < 24; omega), (by show 8 + i ≤ 9; omega), z3 i hi, rp_sz r3 (by decide) hi⟩
theorem e_asked {th : Int32} {y1 y2 y3 : Int32} {s : AS} {post : Int32 → Int32 → Prop} (ok : s.ok)
    (k1 : ¬ askS s y1 → ∀ w i j, askV s y1 y2 y3 w i j → post (nI (fx w i j)) 0) (kS : askS s y1 → post 0 1) (kA : ¬ askS s y1 → (¬ ∃ w i j, askV s y1 y2 y3 w i j) → post 0 2) : wp_X7_asked th (nI s.n) (nI s.sd) (nI s.m) y1 y2 y3 post := by
  obtain ⟨n1, n2, o3, o4, o5, o6, -⟩ := ok
  obtain ⟨a, rfl, ha⟩ := i32_rng y1
  have hai : (iI a).toInt = a := iI_toInt ha.1 ha.2
  have n25 : askS s (iI a) → wj_X7_asked_25 (nI s.n) (nI s.sd) (nI s.m) post th (iI a) y2 y3 := fun z => ⟨fun w => absurd w (by decide), fun _ => kS z⟩
  have n29 : ¬ askS s (iI a) → wj_X7_asked_29 (nI s.n) (nI s.sd) (nI s.m) post th (iI a) y2 y3 := by
    intro hS
    have bad : (¬ ∃ w i j, askV s (iI a) y2 y3 w i j) → wj_X7_asked_98 (nI s.n) (nI s.sd) (nI s.m) post 0 (iI a) y2 y3 := fun z => ⟨fun w => absurd w (by decide), fun _ => ⟨fun w => absurd w (by decide), fun _ => kA hS z⟩⟩
    refine ⟨fun _ => ⟨fun h => bad ?_, fun h1 => ⟨fun h => bad ?_, fun h2 => ⟨fun h => bad ?_, fun h3 => ⟨fun h => bad ?_, fun h4 => ?_⟩⟩⟩⟩, fun z => absurd rfl z⟩
    · rintro ⟨w, i, j, e1, e2, e3, hw, hi, hj⟩
      rw [e1] at h
      exact absurd h (nI_pos (by omega))
    · rintro ⟨w, i, j, e1, e2, e3, hw, hi, hj⟩
      rw [e1, show (4 : Int32) = nI 4 from rfl, nI_ltI (by decide) (by omega)] at h
      omega
    · rintro ⟨w, i, j, e1, e2, e3, hw, hi, hj⟩
      rw [e2] at h
      have : s.rv w ≤ 2 := by unfold AS.rv; split <;> omega
      exact absurd h (nI_pos (by omega))
    · rintro ⟨w, i, j, e1, e2, e3, hw, hi, hj⟩
      rw [e3] at h
      have : s.cv w ≤ 2 := by unfold AS.cv; split <;> omega
      exact absurd h (nI_pos (by omega))
    · obtain ⟨i, rfl, hi⟩ := i32_nat h3
      obtain ⟨j, rfl, hj⟩ := i32_nat h4
      rw [show (0 : Int32) = iI 0 from rfl, iI_lt ha (by decide)] at h1
      rw [show (4 : Int32) = iI 4 from rfl, iI_lt (by decide) ha] at h2
      obtain ⟨w, rfl⟩ : ∃ w : Nat, a = (w : Int) := ⟨a.toNat, by omega⟩
      rw [← nI_iI] at hS bad k1 ⊢
      have hw4 : w ≤ 4 := by omega
      have badw : ¬ (i < s.rv w ∧ j < s.cv w) → wj_X7_asked_98 (nI s.n) (nI s.sd) (nI s.m) post 0 (nI w) (nI i) (nI j) := by
        intro hno
        refine bad ?_
        rintro ⟨w', i', j', e1, e2, e3, hw, hi', hj'⟩
        have r2 : s.rv w' ≤ 2 := by unfold AS.rv; split <;> omega
        have c2 : s.cv w' ≤ 2 := by unfold AS.cv; split <;> omega
        rw [nI_eq (by omega) (by omega)] at e1 e2 e3
        subst e1 e2 e3
        exact hno ⟨hi', hj'⟩
      have good : i < s.rv w → j < s.cv w → wj_X7_asked_103 (nI s.n) (nI s.sd) (nI s.m) post 0 (nI w) (nI i) (nI j) 0 := by
        intro hr hc
        have K := k1 hS w i j ⟨rfl, rfl, rfl, hw4, hr, hc⟩
        refine ⟨fun _ => ⟨fun _ => ⟨fun d0 => ⟨fun d1 => ⟨fun d2 => ⟨fun d3 => ?_, fun d3 => ?_⟩, fun d2 => ?_⟩, fun d1 => ?_⟩, fun d0 => ?_⟩, fun z => absurd rfl z⟩, fun z => absurd rfl z⟩
        · have : w = 4 := by
            rcases (show w = 0 ∨ w = 1 ∨ w = 2 ∨ w = 3 ∨ w = 4 by omega) with z | z | z | z | z
            · subst z; exact absurd rfl d0
            · subst z; exact absurd rfl d1
            · subst z; exact absurd rfl d2
            · subst z; exact absurd rfl d3
            · exact z
          subst this
          rw [show (8 : Int32) = nI 8 from rfl]
          show post (nI 8 + nI i) 0
          rw [nI_add]
          exact K
        · rw [show (3 : Int32) = nI 3 from rfl, nI_eq (by omega) (by decide)] at d3
          subst d3
          exact K
        · rw [show (2 : Int32) = nI 2 from rfl, nI_eq (by omega) (by decide)] at d2
          subst d2
          exact K
        · rw [show (1 : Int32) = nI 1 from rfl, nI_eq (by omega) (by decide)] at d1
          subst d1
          show post (2 + 2 * nI i + nI j) 0
          rw [show (2 : Int32) = nI 2 from rfl, nI_mulN, nI_add, nI_add]
          exact K
        · rw [show (0 : Int32) = nI 0 from rfl, nI_eq (by omega) (by decide)] at d0
          subst d0
          exact K
      have n95 : ∀ c, c = s.cv w → i < s.rv w → wj_X7_asked_95 (nI s.n) (nI s.sd) (nI s.m) post 0 (nI w) (nI i) (nI j) (nI j) (nI c) := by
        intro c hc hr
        have c2 : s.cv w ≤ 2 := by unfold AS.cv; split <;> omega
        rw [wj_X7_asked_95, nI_ltI (by omega) (by omega)]
        exact ⟨fun z => good hr (by omega), fun z => badw (fun y => by omega)⟩
      have n78 : ∀ r, r = s.rv w → wj_X7_asked_78 (nI s.n) (nI s.sd) (nI s.m) post 0 (nI w) (nI i) (nI j) (nI i) (nI r) := by
        intro r hr
        have r2 : s.rv w ≤ 2 := by unfold AS.rv; split <;> omega
        rw [wj_X7_asked_78, nI_leI (by omega) (by omega), show (1 : Int32) = nI 1 from rfl, nI_eq (by omega) (by decide)]
        refine ⟨fun z => badw (fun y => by omega), fun z => ⟨fun e => n95 1 ?_ (by omega), fun e => n95 s.n ?_ (by omega)⟩⟩
        · unfold AS.cv
          rw [if_neg e]
        · unfold AS.cv
          rw [if_pos e]
      rw [show (2 : Int32) = nI 2 from rfl, show (3 : Int32) = nI 3 from rfl, nI_eq (by omega) (by decide), nI_eq (by omega) (by decide)]
      refine ⟨fun e => n78 1 ?_, fun e => ⟨fun e3 => n78 s.n ?_, fun e3 => n78 1 ?_⟩⟩
      · unfold AS.rv
        rw [if_pos (Or.inl e)]
      · unfold AS.rv
        rw [if_neg (by omega)]
      · unfold AS.rv
        rw [if_pos (Or.inr e3)]
  have hsd : nI s.sd = 0 ↔ s.sd = 0 := by rw [show (0 : Int32) = nI 0 from rfl, nI_eq (by omega) (by decide)]
  have hm0 : nI s.m = 0 ↔ s.m = 0 := by rw [show (0 : Int32) = nI 0 from rfl, nI_eq (by omega) (by decide)]
  rw [wp_X7_asked, hsd, hm0, show (1 : Int32) = iI 1 from rfl, show (5 : Int32) = iI 5 from rfl, iI_le ha (by decide), iI_le (by decide) ha]
  refine ⟨fun e => n25 (Or.inl e), fun e => ⟨fun e1 => n29 ?_, fun e1 => ⟨fun e5 => n29 ?_, fun e5 => ⟨fun em => n29 ?_, fun em => n25 (Or.inr ⟨em, ?_, ?_⟩)⟩⟩⟩⟩
  · rintro (z | ⟨z1, z2, z3⟩)
    · exact e z
    · rw [hai] at z2
      omega
  · rintro (z | ⟨z1, z2, z3⟩)
    · exact e z
    · rw [hai] at z3
      omega
  · rintro (z | ⟨z1, z2, z3⟩)
    · exact e z
    · exact em z1
  · rw [hai]
    omega
  · rw [hai]
    omega
theorem e_sign {th : Int32} {pi le sg : Nat → Int32} {y1 y2 y3 : Int32} {s : AS} {Q : Nat → Option Rat} {post : Int32 → Int32 → Prop} (hF : FS pi le sg Q) (hQ : RQ s Q) (ok : s.ok) (ok2 : s.ok2)
    (k1 : ¬ askS s y1 → ∀ w i j, askV s y1 y2 y3 w i j → post (iI (s.val w i j).num.sign) 0) (kS : askS s y1 → post 0 1) (kA : ¬ askS s y1 → (¬ ∃ w i j, askV s y1 y2 y3 w i j) → post 0 2) : wp_X7_sign th (nI s.n) (nI s.sd) (nI s.m) sg y1 y2 y3 post := by
  refine e_asked ok (fun hS w i j hV => ⟨fun _ => ?_, fun z => absurd rfl z⟩) (fun hS => ⟨fun z => absurd z (by decide), fun _ => kS hS⟩) (fun hS hn => ⟨fun z => absurd z (by decide), fun _ => kA hS hn⟩)
  obtain ⟨g1, g2, g3, g4⟩ := fx_ok ok ok2 hQ hS hV
  obtain ⟨v, r, hv⟩ := hF
  refine ⟨vp_in_nI g1 (by decide), ?_⟩
  rw [nI_clamp (by omega), (hv _ _ g1 g3).2.2]
  exact k1 hS w i j hV
theorem e_pieces {th : Int32} {pi le sg : Nat → Int32} {y1 y2 y3 y4 : Int32} {s : AS} {Q : Nat → Option Rat} {post : Int32 → Int32 → Prop} (hF : FS pi le sg Q) (hQ : RQ s Q) (ok : s.ok) (ok2 : s.ok2)
    (k1 : ¬ askS s y1 → ∀ w i j, askV s y1 y2 y3 w i j → ∀ r, (y4 = 0 ∧ r = nI (ln (s.val w i j).num.natAbs)) ∨ (y4 = 1 ∧ r = nI (ln (s.val w i j).den)) → post r 0) (kS : askS s y1 → post 0 1) (kA : ¬ askS s y1 → ¬ ((∃ w i j, askV s y1 y2 y3 w i j) ∧ (y4 = 0 ∨ y4 = 1)) → post 0 2) : wp_X7_pieces th (nI s.n) (nI s.sd) (nI s.m) le y1 y2 y3 y4 post := by
  refine e_asked ok (fun hS w i j hV => ⟨fun z => absurd rfl z, fun _ => ?_⟩) (fun hS => ⟨fun _ => ⟨fun z => absurd z (by decide), fun _ => kS hS⟩, fun z => absurd z (by decide)⟩) (fun hS hn => ⟨fun _ => ⟨fun z => absurd z (by decide), fun _ => kA hS (fun z => hn z.1)⟩, fun z => absurd z (by decide)⟩)
  obtain ⟨g1, g2, g3, g4⟩ := fx_ok ok ok2 hQ hS hV
  obtain ⟨v, r, hv⟩ := hF
  obtain ⟨f1, f2, f3⟩ := hv _ _ g1 g3
  have bad : ¬ (y4 = 0 ∨ y4 = 1) → wj_X7_pieces_27 (nI s.n) (nI s.sd) (nI s.m) le post 0 y4 (nI (fx w i j)) := fun z => ⟨fun w => absurd w (by decide), fun _ => kA hS (fun y => z y.2)⟩
  refine ⟨fun h => bad ?_, fun h0 => ⟨fun h1 => ⟨fun _ => ?_, fun z => absurd rfl z⟩, fun h => bad ?_⟩⟩
  · rintro (rfl | rfl) <;> exact absurd h (by decide)
  · obtain ⟨y, rfl, hy⟩ := i32_nat h0
    rw [show (1 : Int32) = nI 1 from rfl, nI_leI hy (by decide)] at h1
    rw [show (2 : Int32) = nI 2 from rfl, nI_mulN, nI_add]
    refine ⟨vp_in_nI (by omega) (by decide), ?_⟩
    rw [nI_clamp (by omega)]
    obtain rfl | rfl : y = 0 ∨ y = 1 := by omega
    · rw [(r (2 * fx w i j + 0) (by omega)).2.1, Nat.add_zero, f1]
      exact k1 hS w i j hV _ (Or.inl ⟨rfl, rfl⟩)
    · rw [(r (2 * fx w i j + 1) (by omega)).2.1, f2]
      exact k1 hS w i j hV _ (Or.inr ⟨rfl, rfl⟩)
  · rintro (rfl | rfl) <;> exact absurd (by decide) h
theorem sp_digit' {pi le : Nat → Int32} {v : Nat → Nat} {a i : Nat} {post : Int32 → Prop} (h : RS pi le v) (ha : a < 64) (hi : i < 2147483648) (k : post (nI (dg (v a) i))) : wp_X7_digit pi le (nI a) (nI i) post := by
  by_cases hs : i < 1000000
  · exact sp_digit h ha hs k
  · obtain ⟨h1, h2, h3⟩ := h a ha
    refine ⟨vp_in_nI ha (by decide), fun hc => ?_, fun hc => absurd ?_ hc⟩
    · rw [dg_ge_ln (by omega)] at k
      exact k
    · rw [nI_clamp (by omega), h2, nI_leI (by omega) (by omega)]
      omega
theorem e_piece {th : Int32} {pi le sg : Nat → Int32} {y1 y2 y3 y4 y5 : Int32} {s : AS} {Q : Nat → Option Rat} {post : Int32 → Int32 → Prop} (hF : FS pi le sg Q) (hQ : RQ s Q) (ok : s.ok) (ok2 : s.ok2)
    (k1 : ¬ askS s y1 → ∀ w i j, askV s y1 y2 y3 w i j → ∀ k, y5 = nI k → k < 2147483648 → ∀ r, (y4 = 0 ∧ r = nI (dg (s.val w i j).num.natAbs k)) ∨ (y4 = 1 ∧ r = nI (dg (s.val w i j).den k)) → post r 0) (kS : askS s y1 → post 0 1) (kA : ¬ askS s y1 → ¬ ((∃ w i j, askV s y1 y2 y3 w i j) ∧ (y4 = 0 ∨ y4 = 1) ∧ 0 ≤ y5) → post 0 2) : wp_X7_piece th (nI s.n) (nI s.sd) (nI s.m) pi le y1 y2 y3 y4 y5 post := by
  refine e_asked ok (fun hS w i j hV => ⟨fun z => absurd rfl z, fun _ => ?_⟩) (fun hS => ⟨fun _ => ⟨fun z => absurd z (by decide), fun _ => kS hS⟩, fun z => absurd z (by decide)⟩) (fun hS hn => ⟨fun _ => ⟨fun z => absurd z (by decide), fun _ => kA hS (fun z => hn z.1)⟩, fun z => absurd z (by decide)⟩)
  obtain ⟨g1, g2, g3, g4⟩ := fx_ok ok ok2 hQ hS hV
  obtain ⟨v, r, hv⟩ := hF
  obtain ⟨f1, f2, f3⟩ := hv _ _ g1 g3
  have bad : ¬ ((y4 = 0 ∨ y4 = 1) ∧ 0 ≤ y5) → wj_X7_piece_32 (nI s.n) (nI s.sd) (nI s.m) pi le post 0 y4 y5 (nI (fx w i j)) := fun z => ⟨fun w => absurd w (by decide), fun _ => kA hS (fun y => z y.2)⟩
  refine ⟨fun h => bad ?_, fun h0 => ⟨fun h => bad ?_, fun h1 => ⟨fun h5 => ⟨fun _ => ?_, fun z => absurd rfl z⟩, fun h => bad (fun z => h z.2)⟩⟩⟩
  · rintro ⟨rfl | rfl, -⟩ <;> exact absurd h (by decide)
  · rintro ⟨rfl | rfl, -⟩ <;> exact absurd h (by decide)
  · obtain ⟨y, rfl, hy⟩ := i32_nat h0
    obtain ⟨k, rfl, hk⟩ := i32_nat (x := y5) (fun z => absurd z (Int32.not_lt.mpr h5))
    rw [show (1 : Int32) = nI 1 from rfl, nI_ltI (by decide) hy] at h1
    rw [show (2 : Int32) = nI 2 from rfl, nI_mulN, nI_add]
    refine sp_digit' r (by omega) hk ?_
    obtain rfl | rfl : y = 0 ∨ y = 1 := by omega
    · rw [Nat.add_zero, f1]
      exact k1 hS w i j hV k rfl hk _ (Or.inl ⟨rfl, rfl⟩)
    · rw [f2]
      exact k1 hS w i j hV k rfl hk _ (Or.inr ⟨rfl, rfl⟩)
theorem RQ.up {s : AS} {Q : Nat → Option Rat} {f : Nat} {q : Option Rat} (h : RQ s Q) (hf : 10 ≤ f) (hn : s.n ≤ 2) : RQ s (va_up Q f q) := by
  intro h1
  obtain ⟨q1, q2, q3⟩ := h h1
  refine ⟨fun i hi => ?_, fun i j hi hj => ?_, fun hm => ?_⟩
  · rw [va_up_ne _ _ (by omega)]
    exact q1 i hi
  · rw [va_up_ne _ _ (by omega)]
    exact q2 i j hi hj
  · obtain ⟨z1, z2, z3⟩ := q3 hm
    refine ⟨?_, ?_, fun i hi => ?_⟩
    · rw [va_up_ne _ _ (by omega)]
      exact z1
    · rw [va_up_ne _ _ (by omega)]
      exact z2
    · rw [va_up_ne _ _ (by omega)]
      exact z3 i hi
theorem rq_cmp {x : Rat} {a : Int} {b : Nat} (hb : 1 ≤ b) : (x - mkRat a b).num.sign = (x.num * b - x.den * a).sign := by
  have hd : 0 < x.den := Nat.pos_of_ne_zero x.den_nz
  have e : x - mkRat a b = mkRat (x.num * b - x.den * a) (x.den * b) := by
    conv => lhs; rw [← Rat.mkRat_self x]
    simp only [Rat.mkRat_eq_div, Rat.intCast_sub, Rat.intCast_mul, Rat.natCast_mul, Rat.intCast_natCast]
    have := rq_nz hd
    have := rq_nz hb
    grind
  rw [e, mk_sign (Nat.mul_pos hd hb)]
theorem e_compare {th : Int32} {pi le sg wo : Nat → Int32} {y1 y2 y3 y4 y5 : Int32} {s : AS} {Q : Nat → Option Rat} {post : Int32 → Int32 → (Nat → Int32) → (Nat → Int32) → (Nat → Int32) → (Nat → Int32) → Prop} (hF : FS pi le sg Q) (hQ : RQ s Q) (ok : s.ok) (ok2 : s.ok2)
    (k1 : ¬ askS s y1 → ∀ w i j, askV s y1 y2 y3 w i j → ∀ a b, isFr y4 y5 a b → ∀ pi' le' sg' wo' Q', FS pi' le' sg' Q' → RQ s Q' → post (iI ((s.val w i j).num * b - (s.val w i j).den * a).sign) 0 pi' le' sg' wo') (kS : askS s y1 → post 0 1 pi le sg wo) (kA : ¬ askS s y1 → ¬ ((∃ w i j, askV s y1 y2 y3 w i j) ∧ ∃ a b, isFr y4 y5 a b) → post 0 2 pi le sg wo) : wp_X7_compare th (nI s.n) (nI s.sd) (nI s.m) pi le sg wo y1 y2 y3 y4 y5 post := by
  refine e_asked ok (fun hS w i j hV => ⟨fun z => absurd rfl z, fun _ => ?_⟩) (fun hS => ⟨fun _ => ⟨fun z => absurd z (by decide), fun _ => kS hS⟩, fun z => absurd z (by decide)⟩) (fun hS hn => ⟨fun _ => ⟨fun z => absurd z (by decide), fun _ => kA hS (fun z => hn z.1)⟩, fun z => absurd z (by decide)⟩)
  obtain ⟨g1, g2, g3, g4⟩ := fx_ok ok ok2 hQ hS hV
  refine e_noFr (fun a b hab => ⟨fun _ => ⟨fun _ => ?_, fun z => absurd rfl z⟩, fun z => absurd rfl z⟩) (fun hf => ⟨fun z => absurd z (by decide), fun _ => ⟨fun z => absurd z (by decide), fun _ => kA hS (fun z => hf z.2)⟩⟩)
  have K := k1 hS w i j hV a b hab
  obtain ⟨e1, e2, f3, f4, f5⟩ := hab
  rw [e1, e2]
  refine sp_fraction (f := 20) hF (by decide) (by omega) (by omega) (by omega) (fun pi' le' sg' wo' hF' => ?_)
  refine sp_sub (d := 21) (a := fx w i j) (b := 20) (Na := 160) (Nb := 1) hF' (by decide) g1 (by decide) (by decide) (by rw [va_up_ne _ _ (by omega)]; exact g3) (va_up_self _ _ _) g4 (sz_mkRat (by omega) (ln_small (by omega)) (ln_small (by omega))) (by decide) (fun pi2 le2 sg2 wo2 hF2 => ?_)
  refine ⟨by unfold vp_in; decide, ?_⟩
  have R2 : RQ s (va_up (va_up Q 20 (some (mkRat a b))) 21 (some (s.val w i j - mkRat a b))) := (hQ.up (by decide) ok.2.1).up (by decide) ok.2.1
  have hF3 := hF2
  obtain ⟨v, r, hv⟩ := hF3
  rw [show ((21 : Int32)).toNatClampNeg = 21 by decide, (hv 21 _ (by decide) (va_up_self _ _ _)).2.2, rq_cmp f4]
  exact K _ _ _ _ _ hF2 R2
theorem e_about {th : Int32} {y1 : Int32} {s : AS} {post : Int32 → Int32 → Prop} (ok : s.ok)
    (k : ∀ r, r = (if y1 = 0 then nI s.n else if y1 = 1 then nI s.sd else if y1 = 2 then nI s.p else if y1 = 3 then nI s.m else -1) → post r 0) : wp_X7_about th (nI s.n) (nI s.sd) (nI s.p) (nI s.m) y1 post := by
  obtain ⟨n1, n2, o3, o4, o5, o6, -⟩ := ok
  refine ⟨fun e0 => ⟨fun e1 => ⟨fun e2 => ⟨fun e3 => k _ ?_, fun e3 => k _ ?_⟩, fun e2 => k _ ?_⟩, fun e1 => ⟨fun z => k _ ?_, fun z => k _ ?_⟩⟩, fun e0 => k _ ?_⟩
  · rw [if_neg e0, if_neg e1, if_neg e2, if_neg e3]
  · rw [if_neg e0, if_neg e1, if_neg e2, if_pos e3]
  · rw [if_neg e0, if_neg e1, if_pos e2]
  · rw [if_neg e0, if_pos e1, z]
  · rw [if_neg e0, if_pos e1]
    have : s.sd = 1 := by
      rcases (show s.sd = 0 ∨ s.sd = 1 by omega) with w | w
      · rw [w] at z
        exact absurd rfl z
      · exact w
    rw [this]
    rfl
  · rw [if_pos e0]
