/-! ===== the reference's divide ===== -/
theorem vl_split (c : Nat → Nat) (j m : Nat) : vl c (j + m) = vl c j + tp j * vl (fun i => c (j + i)) m := by
  induction m with
  | zero => simp [vl]
  | succ m ih =>
    rw [← Nat.add_assoc, vl_succ, ih, vl_succ, tp_add, Nat.mul_add, Nat.add_assoc]
    congr 2
    rw [Nat.mul_left_comm]
theorem sp_digit_raw {pi le : Nat → Int32} {a i L : Nat} {post : Int32 → Prop} (ha : a < 64) (hl : le a = nI L) (hL : L ≤ 1500) (hi : i < L) (k : post (pi (1500 * a + i))) : wp_X7_digit pi le (nI a) (nI i) post := by
  refine ⟨vp_in_nI ha (by decide), fun hc => ?_, fun hc => ?_⟩
  · rw [nI_clamp (by omega), hl, nI_leI (by omega) (by omega)] at hc
    omega
  · rw [n1500]
    refine ⟨vp_in_nI (by omega) (by decide), ?_⟩
    rw [nI_clamp (by omega)]
    exact k
theorem sl_divide_145 {post : (Nat → Int32) → (Nat → Int32) → (Nat → Int32) → Prop} {K : (Nat → Int32) → (Nat → Int32) → (Nat → Int32) → Int32 → Int32 → Prop} {pi wo : Nat → Int32} {x3 x4 : Int32} {x : Nat} (le0 : Nat → Int32)
    (k : ∀ le, le 60 = nI (ln x) → (∀ r, r ≠ 60 → le r = le0 r) → K pi le wo x3 x4) :
    ∀ (L : Nat) (le : Nat → Int32), L ≤ 1500 → ln x ≤ L → (∀ i, i < L → pi (90000 + i) = nI (dg x i)) → le 60 = nI L → (∀ r, r ≠ 60 → le r = le0 r) → wl_X7_divide_145 post K (L + 1) pi le wo x3 x4 := by
  intro L
  induction L with
  | zero =>
    intro le h1 h2 h3 h4 h5
    rw [wl_X7_divide_145]
    refine ⟨by unfold vp_in; decide, fun _ => k le ?_ h5, fun hc => absurd ?_ hc⟩
    · rw [h4, show ln x = 0 by omega]
    · show le 60 ≤ 0
      rw [h4]
      decide
  | succ L ih =>
    intro le h1 h2 h3 h4 h5
    rw [wl_X7_divide_145]
    have e60 : (60 : Int32).toNatClampNeg = 60 := by decide
    rw [e60, h4]
    refine ⟨by unfold vp_in; decide, fun hc => absurd hc (nI_nle (by omega) (by omega)), fun _ => ⟨by unfold vp_in; decide, ?_⟩⟩
    rw [nI_pred]
    refine sp_digit_raw (a := 60) (L := L + 1) (by decide) h4 h1 (by omega) ?_
    show (¬ pi (90000 + L) = 0 → _) ∧ (pi (90000 + L) = 0 → _)
    rw [h3 L (by omega)]
    have l1 := dg_lt x L
    refine ⟨fun hc => k le ?_ h5, fun hc => ⟨by unfold vp_in; decide, by unfold vp_in; decide, ?_⟩⟩
    · rw [h4]
      congr 1
      rcases Nat.lt_or_ge L (ln x) with q | q
      · omega
      · exact absurd (by rw [dg_ge_ln q]; rfl) hc
    · refine ih _ (by omega) ?_ (fun i hi => h3 i (by omega)) (by rw [upd_s]) (fun r hr => by rw [upd_n hr]; exact h5 r hr)
      rcases Nat.lt_or_ge L (ln x) with q | q
      · have e : ln x = L + 1 := by omega
        exact absurd ((nI_eq (by omega) (by omega)).mp (hc.trans nI_0.symm)) (dg_top e)
      · exact q
theorem sl_divide_201 {post : (Nat → Int32) → (Nat → Int32) → (Nat → Int32) → Prop} {K : (Nat → Int32) → (Nat → Int32) → (Nat → Int32) → Int32 → Prop} {pi wo : Nat → Int32} {x3 : Int32} {x : Nat} (le0 : Nat → Int32)
    (k : ∀ le, le 62 = nI (ln x) → (∀ r, r ≠ 62 → le r = le0 r) → K pi le wo x3) :
    ∀ (L : Nat) (le : Nat → Int32), L ≤ 1500 → ln x ≤ L → (∀ i, i < L → pi (93000 + i) = nI (dg x i)) → le 62 = nI L → (∀ r, r ≠ 62 → le r = le0 r) → wl_X7_divide_201 post K (L + 1) pi le wo x3 := by
  intro L
  induction L with
  | zero =>
    intro le h1 h2 h3 h4 h5
    rw [wl_X7_divide_201]
    refine ⟨by unfold vp_in; decide, fun _ => k le ?_ h5, fun hc => absurd ?_ hc⟩
    · rw [h4, show ln x = 0 by omega]
    · show le 62 ≤ 0
      rw [h4]
      decide
  | succ L ih =>
    intro le h1 h2 h3 h4 h5
    rw [wl_X7_divide_201]
    have e62 : (62 : Int32).toNatClampNeg = 62 := by decide
    rw [e62, h4]
    refine ⟨by unfold vp_in; decide, fun hc => absurd hc (nI_nle (by omega) (by omega)), fun _ => ⟨by unfold vp_in; decide, ?_⟩⟩
    rw [nI_pred]
    refine sp_digit_raw (a := 62) (L := L + 1) (by decide) h4 h1 (by omega) ?_
    show (¬ pi (93000 + L) = 0 → _) ∧ (pi (93000 + L) = 0 → _)
    rw [h3 L (by omega)]
    have l1 := dg_lt x L
    refine ⟨fun hc => k le ?_ h5, fun hc => ⟨by unfold vp_in; decide, by unfold vp_in; decide, ?_⟩⟩
    · rw [h4]
      congr 1
      rcases Nat.lt_or_ge L (ln x) with q | q
      · omega
      · exact absurd (by rw [dg_ge_ln q]; rfl) hc
    · refine ih _ (by omega) ?_ (fun i hi => h3 i (by omega)) (by rw [upd_s]) (fun r hr => by rw [upd_n hr]; exact h5 r hr)
      rcases Nat.lt_or_ge L (ln x) with q | q
      · have e : ln x = L + 1 := by omega
        exact absurd ((nI_eq (by omega) (by omega)).mp (hc.trans nI_0.symm)) (dg_top e)
      · exact q
theorem sl_divide_102 {post : (Nat → Int32) → (Nat → Int32) → (Nat → Int32) → Prop} {K : (Nat → Int32) → (Nat → Int32) → (Nat → Int32) → Int32 → Int32 → Int32 → Prop} {le wo pi0 : Nat → Int32} {x3 x5 : Int32} {X Y n top lX : Nat} (hn : ln Y = n + 1) (hlead : 32768 ≤ dg Y n) (hlX : lX = top + (n + 1)) (hlX2 : lX ≤ 1499)
    (k : ∀ (pi : Nat → Int32) (c qd : Nat → Nat), (∀ i, i ≤ lX → pi (93000 + i) = nI (c i) ∧ c i < 65536) → (∀ i, i ≤ top → pi (90000 + i) = nI (qd i) ∧ qd i < 65536) → (∀ j, (j < 90000 ∨ (90000 + 1500 ≤ j ∧ j < 93000) ∨ 94500 ≤ j) → pi j = pi0 j) → vl c (n + 1) < Y → X = Y * vl qd (top + 1) + vl c (n + 1) → K pi le wo x3 (nI (n + 1)) x5) :
    ∀ (jj : Nat) (pi : Nat → Int32) (c qd : Nat → Nat), jj ≤ top + 1 → (∀ i, i ≤ lX → pi (93000 + i) = nI (c i) ∧ c i < 65536) → (∀ i, jj ≤ i → i ≤ top → pi (90000 + i) = nI (qd i) ∧ qd i < 65536) → (∀ i, i < jj → qd i = 0) → (∀ i, i < n + 1 → pi (94500 + i) = nI (dg Y i)) → (∀ j, (j < 90000 ∨ (90000 + 1500 ≤ j ∧ j < 93000) ∨ 94500 ≤ j) → pi j = pi0 j) →
      vl c (jj + (n + 1)) < Y * tp jj → X = Y * vl qd (top + 1) + vl c (jj + (n + 1)) → wl_X7_divide_102 post K (jj + 1) pi le wo x3 (nI (n + 1)) x5 93000 (nI jj - 1) := by
  have hYt : Y < tp (n + 1) := by rw [← hn]; exact lt_ln Y
  have hY0 : 0 < Y := Nat.pos_of_ne_zero (fun z => by rw [z, ln_0] at hn; omega)
  have hYd : vl (dg Y) (n + 1) = Y := by rw [vl_dg, mod_small hYt]
  intro jj
  induction jj with
  | zero =>
    intro pi c qd h1 h2 h3 h4 h5 h6 h7 h8
    rw [wl_X7_divide_102]
    rw [Nat.zero_add] at h7 h8
    rw [tp_0, Nat.mul_one] at h7
    exact ⟨fun _ => k pi c qd h2 (fun i hi => h3 i (Nat.zero_le _) hi) h6 h7 h8, fun hc => absurd n0_lt hc⟩
  | succ j ih =>
    intro pi c qd h1 h2 h3 h4 h5 h6 h7 h8
    rw [wl_X7_divide_102, nI_pred]
    refine ⟨fun hc => absurd hc (nI_pos (by omega)), fun _ => ?_⟩
    rw [show (93000 : Int32) + nI j = nI (93000 + j) from nI_add 93000 j]
    have es : j + 1 + (n + 1) = j + (n + 1 + 1) := by omega
    rw [es, vl_split c j] at h7 h8
    obtain ⟨u, hu⟩ : ∃ u : Nat → Nat, u = fun i => c (j + i) := ⟨_, rfl⟩
    rw [← hu] at h7 h8
    have hT := tp_pos j
    have hU : vl u (n + 1 + 1) < 65536 * vl (dg Y) (n + 1) := by
      rw [hYd]
      rw [tp_succ] at h7
      have h9 : tp j * vl u (n + 1 + 1) < tp j * (65536 * Y) := by
        have e : Y * (tp j * 65536) = tp j * (65536 * Y) := by rw [Nat.mul_left_comm, Nat.mul_comm Y]
        omega
      exact Nat.lt_of_mul_lt_mul_left h9
    refine sp_oneDigit (u := u) (w := dg Y) (by omega) (by omega) (by omega) (fun i hi => ?_) (fun i hi => ⟨h5 i hi, dg_lt _ _⟩) (by rw [Nat.add_sub_cancel]; exact hlead) hU ?_
    · rw [hu]
      have := h2 (j + i) (by omega)
      rw [← Nat.add_assoc] at this
      exact this
    intro pi' g1 g2
    rw [hYd] at g1 ⊢
    have hq : vl u (n + 1 + 1) / Y < 65536 := by
      rw [hYd] at hU
      exact (Nat.div_lt_iff_lt_mul hY0).mpr hU
    have hm := Nat.mod_lt (vl u (n + 1 + 1)) hY0
    have hdm := Nat.div_add_mod (vl u (n + 1 + 1)) Y
    rw [show (90000 : Int32) + nI j = nI (90000 + j) from nI_add 90000 j, nI_clamp (by omega)]
    refine ⟨vp_in_nI (by omega) (by decide), fun x7 e7 => ?_⟩
    rw [n_m1] at e7
    subst e7
    obtain ⟨c', hc'⟩ : ∃ c' : Nat → Nat, c' = fun i => if j ≤ i ∧ i ≤ j + (n + 1) then dg (vl u (n + 1 + 1) % Y) (i - j) else c i := ⟨_, rfl⟩
    have hL : vl c' j = vl c j := vl_congr (fun i hi => by rw [hc']; exact if_neg (by omega))
    have hW : vl c' (j + (n + 1)) = vl c j + tp j * (vl u (n + 1 + 1) % Y) := by
      rw [vl_split, hL]
      congr 2
      rw [← mod_small (Nat.lt_trans hm hYt), ← vl_dg]
      refine vl_congr (fun i hi => ?_)
      rw [hc']
      show (if _ then _ else _) = _
      rw [if_pos (by omega), Nat.add_sub_cancel_left]
    have hLl : vl c j < tp j := vl_lt (fun i hi => (h2 i (by omega)).2)
    have up := vl_up (d := qd) (k := j) (n := top + 1) (v := vl u (n + 1 + 1) / Y) (by omega)
    rw [h4 j (by omega), Nat.zero_mul, Nat.add_zero] at up
    refine ih _ c' (va_up qd j (vl u (n + 1 + 1) / Y)) (by omega) (fun i hi => ?_) (fun i hi1 hi2 => ?_) (fun i hi => ?_) (fun i hi => ?_) (fun i hi => ?_) ?_ ?_
    · rw [upd_n (by omega), hc']
      show _ = nI (if _ then _ else _) ∧ (if _ then _ else _) < _
      by_cases hin : j ≤ i ∧ i ≤ j + (n + 1)
      · rw [if_pos hin]
        have := g1 (i - j) (by omega)
        rw [show 93000 + j + (i - j) = 93000 + i by omega] at this
        exact ⟨this, dg_lt _ _⟩
      · rw [if_neg hin, g2 _ (by omega)]
        exact h2 i hi
    · by_cases hij : i = j
      · subst hij
        rw [upd_s, va_up_self]
        exact ⟨rfl, hq⟩
      · rw [upd_n (by omega), va_up_ne _ _ hij, g2 _ (by omega)]
        exact h3 i (by omega) hi2
    · rw [va_up_ne _ _ (by omega)]
      exact h4 i (by omega)
    · rw [upd_n (by omega), g2 _ (by omega)]
      exact h5 i hi
    · rw [upd_n (by omega), g2 _ (by omega)]
      exact h6 i hi
    · rw [hW]
      have h9 : tp j * (vl u (n + 1 + 1) % Y + 1) ≤ tp j * Y := Nat.mul_le_mul_left _ hm
      rw [Nat.mul_add, Nat.mul_one] at h9
      rw [Nat.mul_comm Y]
      omega
    · rw [hW, up, h8]
      have h9 : tp j * (Y * (vl u (n + 1 + 1) / Y) + vl u (n + 1 + 1) % Y) = tp j * vl u (n + 1 + 1) := by rw [hdm]
      generalize vl u (n + 1 + 1) / Y = q at *
      generalize vl u (n + 1 + 1) % Y = r at *
      generalize vl u (n + 1 + 1) = U at *
      generalize vl qd (top + 1) = Q at *
      generalize tp j = T at *
      rw [← h9]
      simp only [Nat.mul_add, Nat.mul_assoc, Nat.mul_comm, Nat.mul_left_comm]
      omega
theorem sp_divide {pi le wo : Nat → Int32} {v : Nat → Nat} {a b : Nat} {post : (Nat → Int32) → (Nat → Int32) → (Nat → Int32) → Prop} (h : RS pi le v) (ha : a < 60) (hb : b < 60) (hb0 : v b ≠ 0) (hla : ln (v a) ≤ 1490)
    (k : ∀ pi' le' wo' v', RS pi' le' v' → v' 60 = v a / v b → v' 61 = v a % v b → (∀ r, r < 60 → v' r = v r) → post pi' le' wo') : wp_X7_divide pi le wo (nI a) (nI b) post := by
  have e60 : (60 : Int32).toNatClampNeg = 60 := by decide
  have e62 : (62 : Int32).toNatClampNeg = 62 := by decide
  have e63 : (63 : Int32).toNatClampNeg = 63 := by decide
  rw [wp_X7_divide]
  simp only [e60, e62, e63]
  have h1 : RS pi (upd le 60 0) (va_up v 60 0) := h.put ⟨by decide, by rw [upd_s]; rfl, fun i hi => by rw [ln_0] at hi; omega⟩ (fun r hr hrd => upd_n hrd) (fun j _ => rfl)
  have va60 : va_up v 60 0 a = v a := va_up_ne _ _ (by omega)
  have vb60 : va_up v 60 0 b = v b := va_up_ne _ _ (by omega)
  refine ⟨by unfold vp_in; decide, ?_⟩
  have main : v b ≤ v a → vp_in (nI b) 64 ∧ wp_X7_bits pi (upd le 60 0) (nI b) (fun (r_36 : Int32) => ∀ (x3_40 : Int32), x3_40 = ((16 * ((upd le 60 0) (nI b : Int32).toNatClampNeg)) - r_36) → wp_X7_shiftUp pi (upd le 60 0) wo 62 (nI a) x3_40 (fun (pi_46 : Nat → Int32) (le_46 : Nat → Int32) (wo_46 : Nat → Int32) => wp_X7_shiftUp pi_46 le_46 wo_46 63 (nI b) x3_40 (fun (pi_54 : Nat → Int32) (le_54 : Nat → Int32) (wo_54 : Nat → Int32) => vp_in 63 64 ∧ ∀ (x4_64 : Int32), x4_64 = (le_54 63) → vp_in 62 64 ∧ ∀ (x5_76 : Int32), x5_76 = ((le_54 62) - x4_64) → vp_in 62 64 ∧ vp_in (93000 + (le_54 62)) 96000 ∧ ∃ n102 : Nat, wl_X7_divide_102 post (fun (pi : Nat → Int32) (le : Nat → Int32) (wo : Nat → Int32) (x3 : Int32) (x4 : Int32) (x5 : Int32) => vp_in 60 64 ∧ ∃ n145 : Nat, wl_X7_divide_145 post (fun (pi : Nat → Int32) (le : Nat → Int32) (wo : Nat → Int32) (x3 : Int32) (x4 : Int32) => wj_X7_divide_192 post pi le wo x3 x4) n145 pi (upd le 60 (x5 + 1)) wo x3 x4) n102 (upd pi_54 ((93000 + (le_54 62)) : Int32).toNatClampNeg 0) le_54 wo_54 x3_40 x4_64 x5_76 93000 x5_76))) := by
    intro hba
    obtain ⟨n, hn⟩ : ∃ n, ln (v b) = n + 1 := ⟨ln (v b) - 1, by have := ln_pos hb0; omega⟩
    have hlb : ln (v b) ≤ ln (v a) := ln_mono hba
    refine ⟨vp_in_nI (by omega) (by decide), sp_bits (n := n) h1 (by omega) (by rw [vb60]; exact hn) ?_⟩
    rw [vb60]
    intro bl b1 b2 b3 b4 x3 e3
    obtain ⟨-, q2, -⟩ := h1 b (by omega)
    rw [vb60, hn] at q2
    rw [nI_clamp (by omega), q2, show (16 : Int32) = nI 16 from rfl, pk_mul, pk_sub (by omega), show 16 * (n + 1) - (16 * n + bl) = 16 - bl by omega] at e3
    obtain ⟨kk, hkk⟩ : ∃ kk, kk = 16 - bl := ⟨_, rfl⟩
    rw [← hkk] at e3
    subst e3
    have hk16 : kk < 16 := by omega
    have hpk : 2 ^ kk ≤ 65536 := by
      have : 2 ^ kk ≤ 2 ^ 16 := Nat.pow_le_pow_right (show 0 < 2 by decide) (by omega)
      exact this
    have hpk0 : 0 < 2 ^ kk := Nat.two_pow_pos kk
    obtain ⟨X, hX⟩ : ∃ X, X = v a * 2 ^ kk := ⟨_, rfl⟩
    obtain ⟨Y, hY⟩ : ∃ Y, Y = v b * 2 ^ kk := ⟨_, rfl⟩
    have hXl : ln X ≤ ln (v a) + 1 := by
      refine ln_le.mpr ?_
      rw [hX, tp_succ]
      exact Nat.lt_of_lt_of_le (Nat.mul_lt_mul_of_pos_right (lt_ln (v a)) hpk0) (Nat.mul_le_mul_left _ hpk)
    -- the divisor's top digit
    have hdv := Nat.div_add_mod (v b) (tp n)
    have hmv := Nat.mod_lt (v b) (tp_pos n)
    have hdq : v b / tp n = dg (v b) n := by
      unfold dg
      rw [Nat.mod_eq_of_lt]
      refine (Nat.div_lt_iff_lt_mul (tp_pos n)).mpr ?_
      rw [Nat.mul_comm, ← tp_succ, ← hn]
      exact lt_ln _
    rw [hdq] at hdv
    have p1 : 2 ^ bl * 2 ^ kk = 65536 := by rw [hkk]; exact pow16 b2
    have p2 : 2 ^ (bl - 1) * 2 ^ kk = 32768 := by
      have : 2 ^ bl = 2 ^ (bl - 1) * 2 := by rw [← Nat.pow_succ]; congr 1; omega
      rw [this, Nat.mul_right_comm] at p1
      omega
    have hYhi : Y < tp (n + 1) := by
      have h5 : v b < 2 ^ bl * tp n := by
        have : (dg (v b) n + 1) * tp n ≤ 2 ^ bl * tp n := Nat.mul_le_mul_right _ b4
        rw [Nat.add_mul, Nat.one_mul, Nat.mul_comm (dg (v b) n)] at this
        omega
      have h6 := Nat.mul_lt_mul_of_pos_right h5 hpk0
      rw [hY, tp_succ]
      rw [Nat.mul_right_comm, p1, Nat.mul_comm 65536] at h6
      exact h6
    have hYlo : 32768 * tp n ≤ Y := by
      have h5 : 2 ^ (bl - 1) * tp n ≤ v b := by
        have : 2 ^ (bl - 1) * tp n ≤ dg (v b) n * tp n := Nat.mul_le_mul_right _ b3
        rw [Nat.mul_comm (dg (v b) n)] at this
        omega
      have h6 := Nat.mul_le_mul_right (2 ^ kk) h5
      rw [Nat.mul_right_comm, p2] at h6
      rw [hY]
      exact h6
    have hYn : ln Y = n + 1 := ln_eq (by have := tp_pos n; omega) hYhi
    have hYlead : 32768 ≤ dg Y n := by
      unfold dg
      have h5 : 32768 ≤ Y / tp n := (Nat.le_div_iff_mul_le (tp_pos n)).mpr hYlo
      have h6 : Y / tp n < 65536 := (Nat.div_lt_iff_lt_mul (tp_pos n)).mpr (by rw [Nat.mul_comm, ← tp_succ]; exact hYhi)
      rw [Nat.mod_eq_of_lt h6]
      exact h5
    refine sp_shiftUp (d := 62) (k := kk) h1 (by decide) (by omega) hk16 (by rw [va60, ← hX]; omega) ?_
    rw [va60, ← hX]
    intro pi1 le1 wo1 r1
    refine sp_shiftUp (d := 63) (k := kk) r1 (by decide) (by omega) hk16 (by rw [va_up_ne _ _ (by omega), vb60, ← hY]; omega) ?_
    rw [va_up_ne _ _ (by omega : b ≠ 62), vb60, ← hY]
    intro pi2 le2 wo2 r2
    obtain ⟨-, t63, d63⟩ := r2 63 (by decide)
    obtain ⟨-, t62, d62⟩ := r2 62 (by decide)
    rw [va_up_self] at t63 d63
    rw [va_up_ne _ _ (by decide), va_up_self] at t62 d62
    rw [hYn] at t63
    have hXY : Y ≤ X := by rw [hX, hY]; exact Nat.mul_le_mul_right _ hba
    have hlXY : n + 1 ≤ ln X := by rw [← hYn]; exact ln_mono hXY
    refine ⟨by unfold vp_in; decide, fun x4 e4 => ⟨by unfold vp_in; decide, fun x5 e5 => ?_⟩⟩
    rw [t63] at e4
    subst e4
    rw [t62, pk_sub hlXY] at e5
    obtain ⟨top, htop⟩ : ∃ top, top = ln X - (n + 1) := ⟨_, rfl⟩
    rw [← htop] at e5
    subst e5
    rw [t62, show (93000 : Int32) + nI (ln X) = nI (93000 + ln X) from nI_add 93000 (ln X), nI_clamp (by omega)]
    refine ⟨by unfold vp_in; decide, vp_in_nI (by omega) (by decide), ?_⟩
    have hXv : vl (dg X) (top + 1 + (n + 1)) = X := by
      rw [vl_dg, mod_small (Nat.lt_of_lt_of_le (lt_ln X) (tp_mono (by omega)))]
    have := sl_divide_102 (post := post) (K := (fun (pi : Nat → Int32) (le : Nat → Int32) (wo : Nat → Int32) (x3 : Int32) (x4 : Int32) (x5 : Int32) => vp_in 60 64 ∧ ∃ n145 : Nat, wl_X7_divide_145 post (fun (pi : Nat → Int32) (le : Nat → Int32) (wo : Nat → Int32) (x3 : Int32) (x4 : Int32) => wj_X7_divide_192 post pi le wo x3 x4) n145 pi (upd le 60 (x5 + 1)) wo x3 x4)) (le := le2) (wo := wo2) (pi0 := upd pi2 (93000 + ln X) 0) (x3 := nI kk) (x5 := nI top) (X := X) (Y := Y) (n := n) (top := top) (lX := ln X) hYn hYlead (by omega) (by omega) ?_ (top + 1) (upd pi2 (93000 + ln X) 0) (dg X) (fun _ => 0) (Nat.le_refl _) (fun i hi => ?_) (fun i hi1 hi2 => by omega) (fun i _ => rfl) (fun i hi => ?_) (fun j _ => rfl) ?_ ?_
    · refine ⟨top + 1 + 1, ?_⟩
      rw [nI_pred] at this
      exact this
    · intro pi3 c qd g1 g2 g3 g4 g5
      have hQ : vl qd (top + 1) = X / Y := by
        rw [g5, Nat.add_comm (Y * vl qd (top + 1)), Nat.add_mul_div_left _ _ (by omega), Nat.div_eq_of_lt g4, Nat.zero_add]
      have hW : vl c (n + 1) = X % Y := by
        rw [g5, Nat.add_comm (Y * vl qd (top + 1)), Nat.add_mul_mod_self_left, Nat.mod_eq_of_lt g4]
      have hQl : ln (X / Y) ≤ top + 1 := by
        refine ln_le.mpr ?_
        rw [← hQ]
        exact vl_lt (fun i hi => (g2 i (by omega)).2)
      have hWl : ln (X % Y) ≤ n + 1 := by
        refine ln_le.mpr ?_
        rw [← hW]
        exact vl_lt (fun i hi => (g1 i (by omega)).2)
      refine ⟨by unfold vp_in; decide, top + 1 + 1, sl_divide_145 (x := X / Y) le2 ?_ (top + 1) _ (by omega) hQl (fun i hi => ?_) (by rw [upd_s, nI_1]) (fun r hr => upd_n hr)⟩
      · intro le3 f1 f2
        rw [wj_X7_divide_192]
        simp only [e62]
        refine ⟨by unfold vp_in; decide, n + 1 + 1, sl_divide_201 (x := X % Y) le3 ?_ (n + 1) _ (by omega) hWl (fun i hi => ?_) (by rw [upd_s]) (fun r hr => upd_n hr)⟩
        · intro le4 f3 f4
          have r3 : RS pi3 le4 (va_up (va_up (va_up (va_up v 60 (X / Y)) 62 (X % Y)) 63 Y) 63 Y) := by
            intro r hr
            by_cases hr63 : r = 63
            · subst hr63
              rw [va_up_self]
              refine ⟨by omega, ?_, fun i hi => ?_⟩
              · rw [f4 _ (by decide), f2 _ (by decide), t63, hYn]
              · rw [g3 _ (by omega), upd_n (by omega)]
                exact d63 i hi
            · rw [va_up_ne _ _ hr63, va_up_ne _ _ hr63]
              by_cases hr62 : r = 62
              · subst hr62
                rw [va_up_self]
                refine ⟨by omega, f3, fun i hi => ?_⟩
                have := g1 i (by omega)
                rw [show 1500 * 62 + i = 93000 + i by omega, this.1, ← hW, dg_vl (fun z hz => (g1 z (by omega)).2) (by omega)]
              · rw [va_up_ne _ _ hr62]
                by_cases hr60 : r = 60
                · subst hr60
                  rw [va_up_self]
                  refine ⟨by omega, by rw [f4 _ (by decide), f1], fun i hi => ?_⟩
                  have := g2 i (by omega)
                  rw [show 1500 * 60 + i = 90000 + i by omega, this.1, ← hQ, dg_vl (fun z hz => (g2 z (by omega)).2) (by omega)]
                · rw [va_up_ne _ _ hr60]
                  obtain ⟨s1, s2, s3⟩ := r2 r hr
                  rw [va_up_ne _ _ hr63, va_up_ne _ _ hr62, va_up_ne _ _ hr60] at s1 s2 s3
                  refine ⟨s1, by rw [f4 _ hr62, f2 _ hr60]; exact s2, fun i hi => ?_⟩
                  rw [g3 _ (by omega), upd_n (by omega)]
                  exact s3 i hi
          rw [wj_X7_divide_248]
          refine sp_shiftDown (d := 61) (a := 62) (k := kk) r3 (by decide) (by decide) hk16 ?_
          intro pi4 le4 wo4 r4
          refine k _ _ _ _ r4 ?_ ?_ (fun r hr => ?_)
          · rw [va_up_ne _ _ (by decide), va_up_ne _ _ (by decide), va_up_ne _ _ (by decide), va_up_ne _ _ (by decide), va_up_self, hX, hY, Nat.mul_div_mul_right _ _ hpk0]
          · rw [va_up_self, va_up_ne _ _ (by decide), va_up_ne _ _ (by decide), va_up_self, hX, hY, Nat.mul_mod_mul_right, Nat.mul_div_cancel _ hpk0]
          · rw [va_up_ne _ _ (by omega), va_up_ne _ _ (by omega), va_up_ne _ _ (by omega), va_up_ne _ _ (by omega), va_up_ne _ _ (by omega)]
        · have := g1 i (by omega)
          rw [this.1, ← hW, dg_vl (fun z hz => (g1 z (by omega)).2) (by omega)]
      · have := g2 i (by omega)
        rw [this.1, ← hQ, dg_vl (fun z hz => (g2 z (by omega)).2) (by omega)]
    · by_cases hil : i = ln X
      · subst hil
        rw [upd_s, dg_ge (lt_ln X)]
        exact ⟨rfl, by decide⟩
      · rw [upd_n (by omega)]
        have := d62 i (by omega)
        rw [show 1500 * 62 + i = 93000 + i by omega] at this
        exact ⟨this, dg_lt _ _⟩
    · rw [upd_n (by omega)]
      have := d63 i (by omega)
      rw [show 1500 * 63 + i = 94500 + i by omega] at this
      exact this
    · rw [hXv]
      have h5 : X < tp (ln X) := lt_ln X
      have h6 : tp (ln X) = tp n * tp (top + 1) := by rw [← tp_add]; congr 1; omega
      have h7 : tp n * tp (top + 1) ≤ Y * tp (top + 1) := Nat.mul_le_mul_right _ (by have := tp_pos n; omega)
      omega
    · rw [hXv, vl_zero (n := 0) (Nat.zero_le _) (fun _ _ _ => rfl)]
      simp [vl]
  refine sp_order h1 (by omega) (by omega) ?_ ?_ ?_
  · rw [va60, vb60]
    intro hlt
    refine ⟨fun hc => absurd hc (by decide), fun _ => ?_⟩
    refine sp_copy (d := 61) h1 (by decide) (by omega) (by omega) ?_
    intro pi' le' r'
    refine k _ _ _ _ r' ?_ ?_ (fun r hr => ?_)
    · rw [va_up_ne _ _ (by decide), va_up_self, Nat.div_eq_of_lt hlt]
    · rw [va_up_self, va60, Nat.mod_eq_of_lt hlt]
    · rw [va_up_ne _ _ (by omega), va_up_ne _ _ (by omega)]
  · rw [va60, vb60]
    intro heq
    exact ⟨fun _ => main (by omega), fun hc => absurd (show (0 : Int32) ≤ 0 by decide) hc⟩
  · rw [va60, vb60]
    intro hgt
    exact ⟨fun _ => main (by omega), fun hc => absurd (show (0 : Int32) ≤ 1 by decide) hc⟩
