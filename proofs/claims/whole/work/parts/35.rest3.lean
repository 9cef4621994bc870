/-! ===== the class's Rest: divideBy; Whole's dividedBy and commonDivisor (own work) ===== -/
section
/-- a rest: its digits lie in a row of its own -/
def Rs (h : xH) (r d n w : Nat) : Prop := h r = some (.inr (3, [.ref d, .int (nI (ln w))])) ∧ Dg h d n w ∧ ln w ≤ n ∧ n ≤ 20000
theorem lI_divn {a b : Nat} (ha : a < 9223372036854775808) (hb : b < 9223372036854775808) (h0 : 0 < b) : lI (a : Nat) / lI (b : Nat) = lI ((a / b : Nat) : Int) := by
  rw [← lN_lI, ← lN_lI, ← lN_lI]
  exact pk_lDiv (by omega) (by omega) (by omega)
theorem quo_digit (w v m : Nat) : w % (v * tp (m + 1)) / (v * tp m) = dg (w / v) m := by
  unfold dg
  rw [Nat.div_div_eq_div_mul, tp_succ, ← Nat.mul_assoc, Nat.mod_mul_right_div_self]
theorem quo_mod (w v m : Nat) : w % (v * tp (m + 1)) % (v * tp m) = w % (v * tp m) := by
  rw [tp_succ, ← Nat.mul_assoc]
  exact Nat.mod_mul_right_mod _ _ _
theorem sr_div_23 {post : xH → Prop} {K : xH → Nat → Prop} {h0 : xH} {x0 x1 x2 d d2 N N2 NQ w v M0 : Nat} (hr0 : h0 x0 = some (.inr (3, [.ref d, .int (nI (ln w))]))) (hr1 : h0 x1 = some (.inr (3, [.ref d2, .int (nI (ln v))]))) (hL : ln w ≤ N) (hN : N ≤ 20000) (hv : Dg h0 d2 N2 v) (hn2 : ln v ≤ N2) (hN2 : N2 ≤ 20000) (hv1 : 1 ≤ ln v) (hdd : d2 ≠ d) (h2d : x2 ≠ d) (h2d2 : d2 ≠ x2) (h0d : x0 ≠ d) (h1d : x1 ≠ d) (h02 : x0 ≠ x2) (h12 : x1 ≠ x2) (hNQ : NQ ≤ 20001)
    (k : ∀ h f, (∀ c, c ≠ d → c ≠ x2 → h c = h0 c) → Dg h d N (w % v) → h x2 = some (.inl (0, NQ, .inl f)) → (∀ i, i < NQ → i < M0 → f i = nI (dg (w / v) i)) → K h x0) :
    ∀ (m : Nat) (h : xH) (f : Nat → Int32), m + ln v ≤ ln w + 1 → (∀ c, c ≠ d → c ≠ x2 → h c = h0 c) → Dg h d N (w % (v * tp m)) → h x2 = some (.inl (0, NQ, .inl f)) → (∀ i, m ≤ i → i < NQ → i < M0 → f i = nI (dg (w / v) i)) → wl_X3_divideBy_23 post K (m + 1) h x0 x1 x2 (lI ((v * 65536 / tp (ln v - 1) : Nat) : Int)) (nI m - 1) := by
  intro m
  induction m with
  | zero =>
    intro h f hm hh hd hf hq
    rw [wl_X3_divideBy_23]
    rw [tp_0, Nat.mul_one] at hd
    exact ⟨fun _ => k h f hh hd hf (fun i h1 h2 => hq i (Nat.zero_le _) h1 h2), fun hc => absurd n0_lt hc⟩
  | succ m ih =>
    intro h f hm hh hd hf hq
    rw [wl_X3_divideBy_23, nI_pred]
    have e0 := (hh x0 h0d h02).trans hr0
    have e1 := (hh x1 h1d h12).trans hr1
    have hv' : Dg h d2 N2 v := by
      obtain ⟨fv, v1, v2⟩ := hv
      exact ⟨fv, (hh d2 hdd h2d2).trans v1, v2⟩
    have hvpos : 0 < v := Nat.pos_of_ne_zero (fun z => by rw [z, ln_0] at hv1; omega)
    have tpm := tp_pos m
    have hvm : 0 < v * tp m := Nat.mul_pos hvpos tpm
    have hvm1 : 0 < v * tp (m + 1) := Nat.mul_pos hvpos (tp_pos _)
    obtain ⟨U, hUe⟩ : ∃ U, U = w % (v * tp (m + 1)) := ⟨_, rfl⟩
    rw [← hUe] at hd
    have hU1 : U < v * tp (m + 1) := by rw [hUe]; exact Nat.mod_lt _ hvm1
    have hU2 : U < tp (ln w) := Nat.lt_of_le_of_lt (by rw [hUe]; exact Nat.mod_le _ _) (lt_ln w)
    have hvt : v < tp (ln v) := lt_ln v
    have hvtm : v * tp m < tp (m + ln v) := by
      rw [tp_add, Nat.mul_comm]
      exact (Nat.mul_lt_mul_left tpm).mpr hvt
    have hU3 : U < tp (m + ln v + 1) := by
      refine Nat.lt_of_lt_of_le hU1 ?_
      rw [show m + ln v + 1 = ln v + (m + 1) by omega, tp_add (ln v) (m + 1)]
      exact Nat.mul_le_mul_right _ (Nat.le_of_lt hvt)
    obtain ⟨g1, g2, g3⟩ := guess (p := m) hv1 hU1
    have hqd : U / (v * tp m) = dg (w / v) m := by rw [hUe]; exact quo_digit w v m
    have hrm : U % (v * tp m) = w % (v * tp m) := by rw [hUe]; exact quo_mod w v m
    have hV1 : 65536 ≤ v * 65536 / tp (ln v - 1) := by
      rw [Nat.le_div_iff_mul_le (tp_pos _), Nat.mul_comm]
      exact Nat.mul_le_mul_right _ (tp_le_of_lt_ln (by omega))
    have hV2 : v * 65536 / tp (ln v - 1) < 4294967296 := by
      refine (Nat.div_lt_iff_lt_mul (tp_pos _)).mpr ?_
      have : tp (ln v) = tp (ln v - 1) * 65536 := by rw [← tp_succ, show ln v - 1 + 1 = ln v by omega]
      omega
    have hU4 : U * 65536 / tp (m + ln v - 1) < 281474976710656 := by
      refine (Nat.div_lt_iff_lt_mul (tp_pos _)).mpr ?_
      have : tp (m + ln v + 1) = tp (m + ln v - 1) * 65536 * 65536 := by rw [← tp_succ, ← tp_succ, show m + ln v - 1 + 1 + 1 = m + ln v + 1 by omega]
      omega
    obtain ⟨V, hVe⟩ : ∃ V, V = v * 65536 / tp (ln v - 1) := ⟨_, rfl⟩
    obtain ⟨U3, hU3e⟩ : ∃ U3, U3 = U * 65536 / tp (m + ln v - 1) := ⟨_, rfl⟩
    rw [← hVe] at g1 g2 g3 hV1 hV2 ih ⊢
    rw [← hU3e] at g1 g2 g3 hU4
    have z0 : (0 : Int64) = lI 0 := rfl
    refine ⟨fun hc => absurd hc (nI_pos (by omega)), fun _ => ⟨_, e1, _, rfl, _, e0, ?_⟩⟩
    rw [nI_add]
    refine sr_headBelow e0 hd hL hN hU2 hU3 (by omega) (by omega) ?_
    rw [← hU3e]
    refine ⟨fun z => by rw [z0, lI_eq (by omega) (by omega)] at z; omega, fun x6 e6 => ?_⟩
    rw [lI_divn (by omega) (by omega) (by omega), l_i] at e6
    obtain ⟨g, hge⟩ : ∃ g, g = U3 / V := ⟨_, rfl⟩
    rw [← hge] at g1 g2 g3 e6
    subst e6
    have hstep : ∀ h', (∀ c, c ≠ d → h' c = h c) → Dg h' d N (U % (v * tp m)) → wj_X3_divideBy_71 post (wl_X3_divideBy_23 post K (m + 1)) K h' x0 x1 x2 (lI (V : Nat)) (nI m) (nI (U / (v * tp m))) := by
      intro h' hh' hd'
      rw [hrm] at hd'
      refine ⟨_, _, (hh' x2 h2d).trans hf, fun hc x5 e5 => ?_, fun hc => ⟨?_, fun h3 e3 x5 e5 => ?_⟩⟩
      · rw [nI_leI (by omega) (by omega)] at hc
        rw [n_m1] at e5
        rw [e5]
        exact ih h' f (by omega) (fun c c1 c2 => (hh' c c1).trans (hh c c1 c2)) hd' ((hh' x2 h2d).trans hf) (fun i i1 i2 i3 => hq i (by omega) i2 i3)
      · rw [nI_leI (by omega) (by omega)] at hc
        exact vp_in_nI (by omega) (by omega)
      · rw [nI_leI (by omega) (by omega)] at hc
        rw [n_m1] at e5
        rw [nI_clamp (by omega), hqd] at e3
        rw [e5]
        refine ih h3 _ (by omega) (fun c c1 c2 => by rw [e3, x_up_n c2]; exact (hh' c c1).trans (hh c c1 c2)) ?_ (by rw [e3]; exact x_up_s) (fun i i1 i2 i3 => ?_)
        · obtain ⟨f', p1, p2⟩ := hd'
          exact ⟨f', by rw [e3, x_up_n (Ne.symm h2d)]; exact p1, p2⟩
        · by_cases him : i = m
          · subst him
            rw [upd_s]
          · rw [upd_n him]
            exact hq i (by omega) i2 i3
    have hdm := Nat.div_add_mod U (v * tp m)
    have hml := Nat.mod_lt U hvm
    refine ⟨fun hc => ?_, fun hc => ?_⟩
    · have hg0 : g = 0 := by
        rw [show (0 : Int32) = nI 0 from rfl, nI_leI (by omega) (by decide)] at hc
        omega
      have hq0 : U / (v * tp m) = 0 := by omega
      have := hstep h (fun _ _ => rfl) (by rw [hq0] at hdm; rw [show U % (v * tp m) = U by omega]; exact hd)
      rw [hq0] at this
      rw [hg0]
      exact this
    · have hgm : g * v * tp m = g * (v * tp m) := Nat.mul_assoc _ _ _
      have hA1 : g * (v * tp m) ≤ (U / (v * tp m) + 1) * (v * tp m) := Nat.mul_le_mul_right _ g3
      have hB1 : U / (v * tp m) * (v * tp m) ≤ g * (v * tp m) := Nat.mul_le_mul_right _ g2
      rw [Nat.add_mul, Nat.one_mul] at hA1
      have hcm : v * tp m * (U / (v * tp m)) = U / (v * tp m) * (v * tp m) := Nat.mul_comm _ _
      refine sr_takes e0 e1 hd hv' hn2 hN2 hL hN hdd (by omega) hU2 hU3 g1 (by omega) (by omega) (fun hle h' hh' hd' => ⟨fun _ => ?_, fun hx => absurd rfl hx⟩) (fun hlt h' hh' hd' => ⟨fun hx => absurd hx (by decide), fun _ => ⟨_, (hh' x0 h0d).trans e0, ?_⟩⟩)
      · have hgq : U / (v * tp m) = g := by
          have : g ≤ U / (v * tp m) := (Nat.le_div_iff_mul_le hvm).mpr (by omega)
          omega
        have := hstep h' hh' (by rw [show U % (v * tp m) = U - g * v * tp m by rw [hgm, ← hgq]; omega]; exact hd')
        rw [hgq] at this
        exact this
      · have hgq : g = U / (v * tp m) + 1 := by
          rcases Nat.lt_or_ge (U / (v * tp m)) g with h | h
          · omega
          · have : g = U / (v * tp m) := by omega
            rw [hgm, this] at hlt
            omega
        have hgm2 : g * (v * tp m) = U / (v * tp m) * (v * tp m) + v * tp m := by rw [hgq, Nat.add_mul, Nat.one_mul]
        have hMe := tp_mono (show m + ln v ≤ min (m + ln v + 1) (ln w) by omega)
        have hv2 : Dg h' d2 N2 v := by
          obtain ⟨fv, v1, v2⟩ := hv'
          exact ⟨fv, (hh' d2 hdd).trans v1, v2⟩
        refine sr_giveBack (X := U + tp (min (m + ln v + 1) (ln w)) - g * v * tp m) (Y := U % (v * tp m)) ((hh' x0 h0d).trans e0) ((hh' x1 h1d).trans e1) hd' hv2 hn2 hN2 hL hN hdd (by omega) (by omega) (by omega) (by omega) (fun h'' hh'' hd'' x6 e6 => ?_)
        rw [e6, n_m1, show nI g - 1 = nI (U / (v * tp m)) by rw [hgq, nI_pred]]
        exact hstep h'' (fun c hc => (hh'' c hc).trans (hh' c hc)) hd''
theorem sr_div_90 {post : xH → Prop} {K : xH → Prop} {h0 : xH} {x0 d N w : Nat} (hd : Dg h0 d N w) (hN : N ≤ 20000) (h0d : d ≠ x0)
    (k : ∀ h, (∀ c, c ≠ x0 → h c = h0 c) → h x0 = some (.inr (3, [.ref d, .int (nI (ln w))])) → K h) :
    ∀ j h, (∀ c, c ≠ x0 → h c = h0 c) → h x0 = some (.inr (3, [.ref d, .int (nI j)])) → ln w ≤ j → j ≤ N → wl_X3_divideBy_90 post K (j + 1) h x0 := by
  obtain ⟨f, d1, d2⟩ := hd
  intro j
  induction j with
  | zero =>
    intro h hh hx a1 a2
    rw [wl_X3_divideBy_90]
    have : ln w = 0 := by omega
    rw [this] at k
    exact ⟨_, hx, _, rfl, fun _ => k h hh hx, fun hc => absurd (by decide) hc⟩
  | succ j ih =>
    intro h hh hx a1 a2
    rw [wl_X3_divideBy_90]
    refine ⟨_, hx, _, rfl, fun hc => absurd hc (nI_nle (by omega) (by omega)), fun _ => ⟨_, rfl, _, _, (hh d h0d).trans d1, ?_⟩⟩
    have l1 := dg_lt w j
    rw [nI_pred, nI_clamp (by omega), d2 j (by omega)]
    refine ⟨vp_in_nI (by omega) (by omega), fun hc => ?_, fun hc => ⟨Nat.le_of_ble_eq_true rfl, fun h' e' => ?_⟩⟩
    · have : ln w = j + 1 := by
        rcases Nat.lt_or_ge j (ln w) with q | q
        · omega
        · exact absurd (by rw [dg_ge_ln q]; rfl) hc
      rw [this] at k
      exact k h hh hx
    · refine ih h' (fun c hc => by rw [e', x_up_n hc]; exact hh c hc) (by rw [e', x_up_s]; rfl) ?_ (by omega)
      rcases Nat.lt_or_ge j (ln w) with q | q
      · have e : ln w = j + 1 := by omega
        exact absurd ((nI_eq (by omega) (by omega)).mp (hc.trans nI_0.symm)) (dg_top e)
      · exact q
theorem sr_divideBy {h0 : xH} {x0 x1 x2 d d2 N N2 NQ w v : Nat} {f0 : Nat → Int32} {post : xH → Prop} (h1 : Rs h0 x0 d N w) (h2 : Rs h0 x1 d2 N2 v) (hf : h0 x2 = some (.inl (0, NQ, .inl f0))) (hv : v ≠ 0) (hdd : d2 ≠ d) (h2d : x2 ≠ d) (h2d2 : d2 ≠ x2) (hNQ : NQ ≤ 20001)
    (k : ∀ h' f', (∀ c, c ≠ d → c ≠ x2 → c ≠ x0 → h' c = h0 c) → Rs h' x0 d N (w % v) → h' x2 = some (.inl (0, NQ, .inl f')) → (∀ i, i < NQ → i + ln v < ln w + 1 → f' i = nI (dg (w / v) i)) → post h') : wp_X3_divideBy h0 x0 x1 x2 post := by
  obtain ⟨a1, a2, a3, a4⟩ := h1
  obtain ⟨b1, b2, b3, b4⟩ := h2
  have hv1 : 1 ≤ ln v := ln_pos hv
  have a2' := a2
  obtain ⟨fa, fa1, fa2⟩ := a2'
  have h0d : x0 ≠ d := fun z => by rw [z, fa1] at a1; cases a1
  have h1d : x1 ≠ d := fun z => by rw [z, fa1] at b1; cases b1
  have h02 : x0 ≠ x2 := fun z => by rw [z, hf] at a1; cases a1
  have h12 : x1 ≠ x2 := fun z => by rw [z, hf] at b1; cases b1
  have hV1 : 65536 ≤ v * 65536 / tp (ln v - 1) := by
    rw [Nat.le_div_iff_mul_le (tp_pos _), Nat.mul_comm]
    exact Nat.mul_le_mul_right _ (tp_le_of_lt_ln (by omega))
  have hV2 : v * 65536 / tp (ln v - 1) < 4294967296 := by
    refine (Nat.div_lt_iff_lt_mul (tp_pos _)).mpr ?_
    have := lt_ln v
    have : tp (ln v) = tp (ln v - 1) * 65536 := by rw [← tp_succ, show ln v - 1 + 1 = ln v by omega]
    omega
  have z0 : (0 : Int64) = lI 0 := rfl
  refine ⟨_, b1, sr_head b1 b2 b3 b4 hv1 ⟨fun _ => ⟨_, a1, _, rfl, _, rfl, fun x5 e5 => ?_⟩, fun hc => ?_⟩⟩
  · have tail : ∀ h f, (∀ c, c ≠ d → c ≠ x2 → h c = h0 c) → Dg h d N (w % v) → h x2 = some (.inl (0, NQ, .inl f)) → (∀ i, i < NQ → i < ln w + 1 - ln v → f i = nI (dg (w / v) i)) → ∃ n90 : Nat, wl_X3_divideBy_90 post (fun (h : xH) => wj_X3_divideBy_124 post h) n90 h x0 := by
      intro h f hh hd hf' hq
      have hlw : ln (w % v) ≤ ln w := ln_mono (Nat.mod_le _ _)
      refine ⟨ln w + 1, sr_div_90 hd a4 (Ne.symm h0d) (fun h' hh' hx' => k h' f (fun c c1 c2 c3 => (hh' c c3).trans (hh c c1 c2)) ⟨hx', ?_, by omega, a4⟩ ((hh' x2 (Ne.symm h02)).trans hf') (fun i i1 i2 => hq i i1 (by omega))) (ln w) h (fun _ _ => rfl) ((hh x0 h0d h02).trans a1) hlw a3⟩
      obtain ⟨fd, p1, p2⟩ := hd
      exact ⟨fd, (hh' d (Ne.symm h0d)).trans p1, p2⟩
    rcases Nat.lt_or_ge (ln w) (ln v) with hlt | hge
    · refine ⟨1, ?_⟩
      rw [wl_X3_divideBy_23]
      have hneg : x5 < 0 := by
        rw [e5, nI_iI, nI_iI, iI_sub, show (0 : Int32) = iI 0 from rfl, iI_lt (by omega) (by omega)]
        omega
      have hwv : w % v = w := Nat.mod_eq_of_lt (lt_of_ln hlt)
      refine ⟨fun _ => tail h0 f0 (fun _ _ _ => rfl) (by rw [hwv]; exact a2) hf (fun i i1 i2 => by omega), fun hc => absurd hneg hc⟩
    · have hx5 : x5 = nI (ln w + 1 - ln v) - 1 := by
        rw [e5, nI_iI, nI_iI, nI_iI, iI_sub, show (1 : Int32) = iI 1 from rfl, iI_sub]
        congr 1
        omega
      rw [hx5]
      have hw : w % (v * tp (ln w + 1 - ln v)) = w := by
        refine Nat.mod_eq_of_lt ?_
        have t1 : tp (ln v - 1) ≤ v := tp_le_of_lt_ln (by omega)
        have t2 := lt_ln w
        have t3 : tp (ln w) = tp (ln v - 1) * tp (ln w + 1 - ln v) := by rw [← tp_add, show ln v - 1 + (ln w + 1 - ln v) = ln w by omega]
        exact Nat.lt_of_lt_of_le t2 (by rw [t3]; exact Nat.mul_le_mul_right _ t1)
      exact ⟨ln w + 1 - ln v + 1, sr_div_23 (M0 := ln w + 1 - ln v) a1 b1 a3 a4 b2 b3 b4 hv1 hdd h2d h2d2 h0d h1d h02 h12 hNQ tail (ln w + 1 - ln v) h0 f0 (by omega) (fun _ _ _ => rfl) (by rw [hw]; exact a2) hf (fun i i1 i2 i3 => by omega)⟩
  · rw [z0, lI_eq (by omega) (by omega)] at hc
    omega
end
