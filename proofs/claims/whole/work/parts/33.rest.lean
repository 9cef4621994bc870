/-! ===== the class's Rest: division in place (own work) ===== -/
section
theorem dg_up0 (u : Nat) : dg (u * 65536) 0 = 0 := by
  unfold dg
  rw [tp_0, Nat.div_one]
  exact Nat.mul_mod_left _ _
theorem dg_ups (u i : Nat) : dg (u * 65536) (i + 1) = dg u i := by
  unfold dg
  rw [tp_succ, Nat.mul_div_mul_right _ _ (by decide)]
theorem sr_digit {h : xH} {r d n L U i : Nat} {post : Int32 → Prop} (hr : h r = some (.inr (3, [.ref d, .int (nI L)]))) (hd : Dg h d n U) (hL : L ≤ n) (hn : n ≤ 20000) (hU : U < tp L) (hi : i < 1000000) (k : post (nI (dg U i))) : wp_X3_digit h r (nI i) post := by
  obtain ⟨f, h2, h3⟩ := hd
  refine ⟨fun hc => absurd hc (nI_pos (by omega)), fun _ => ⟨_, hr, _, rfl, fun hc => ?_, fun hc => ⟨_, rfl, _, _, h2, ?_⟩⟩⟩
  · rw [nI_leI (by omega) (by omega)] at hc
    rw [dg_ge (Nat.lt_of_lt_of_le hU (tp_mono hc))] at k
    exact k
  · rw [nI_leI (by omega) (by omega)] at hc
    refine ⟨vp_in_nI (by omega) (by omega), ?_⟩
    rw [nI_clamp (by omega), h3 i (by omega)]
    exact k
theorem sr_digit1 {h : xH} {r d n L U i : Nat} {post : Int32 → Prop} (hr : h r = some (.inr (3, [.ref d, .int (nI L)]))) (hd : Dg h d n U) (hL : L ≤ n) (hn : n ≤ 20000) (hU : U < tp L) (hi : i < 1000000) (k : post (nI (dg (U * 65536) i))) : wp_X3_digit h r (nI i - 1) post := by
  cases i with
  | zero =>
    rw [dg_up0] at k
    exact ⟨fun _ => k, fun hc => absurd n0_lt hc⟩
  | succ i =>
    rw [dg_ups] at k
    rw [nI_pred]
    exact sr_digit hr hd hL hn hU (by omega) k
theorem nI_m2 {i : Nat} (hi : 1 ≤ i) : nI i - 2 = nI (i - 1) - 1 := by
  rw [show (2 : Int32) = nI 1 + nI 1 from rfl, nI_iI, nI_iI, iI_add, iI_sub, show (1 : Int32) = iI 1 from rfl, nI_iI, iI_sub]
  congr 1
  omega
theorem tp_mul_lt {u n : Nat} (h : u < tp n) : u * 65536 < tp (n + 1) := by
  rw [tp_succ]
  omega
theorem sr_head {h : xH} {r d n v : Nat} {post : Int64 → Prop} (hr : h r = some (.inr (3, [.ref d, .int (nI (ln v))]))) (hd : Dg h d n v) (hL : ln v ≤ n) (hn : n ≤ 20000) (h1 : 1 ≤ ln v) (k : post (lI ((v * 65536 / tp (ln v - 1) : Nat) : Int))) : wp_X3_head h r post := by
  refine ⟨_, hr, _, rfl, sr_digit1 hr hd hL hn (lt_ln v) (by omega) ?_⟩
  rw [nI_m2 h1]
  refine sr_digit1 hr hd hL hn (lt_ln v) (by omega) ?_
  have l1 := dg_lt (v * 65536) (ln v)
  have l2 := dg_lt (v * 65536) (ln v - 1)
  rw [i_l _ (by omega), i_l _ (by omega), lI_shl16, lI_add]
  have e1 := div_tp (v * 65536) (ln v - 1)
  have e2 := div_tp (v * 65536) (ln v)
  rw [show ln v - 1 + 1 = ln v by omega] at e1
  rw [Nat.div_eq_of_lt (tp_mul_lt (lt_ln v))] at e2
  rw [e2] at e1
  rw [e1] at k
  rw [show ((dg (v * 65536) (ln v) : Int) * 65536 + dg (v * 65536) (ln v - 1)) = (((0 * 65536 + dg (v * 65536) (ln v)) * 65536 + dg (v * 65536) (ln v - 1) : Nat) : Int) by omega]
  exact k
theorem sr_headBelow {h : xH} {r d n L U t : Nat} {post : Int64 → Prop} (hr : h r = some (.inr (3, [.ref d, .int (nI L)]))) (hd : Dg h d n U) (hL : L ≤ n) (hn : n ≤ 20000) (hU : U < tp L) (ht : U < tp (t + 1)) (h1 : 1 ≤ t) (h2 : t ≤ 20000) (k : post (lI ((U * 65536 / tp (t - 1) : Nat) : Int))) : wp_X3_headBelow h r (nI t) post := by
  refine ⟨_, hr, sr_digit hr hd hL hn hU (by omega) (sr_digit1 hr hd hL hn hU (by omega) (fun x2 e2 => ?_))⟩
  rw [nI_m2 h1]
  refine sr_digit1 hr hd hL hn hU (by omega) ?_
  have l1 := dg_lt U t
  have l2 := dg_lt (U * 65536) t
  have l3 := dg_lt (U * 65536) (t - 1)
  rw [i_l _ (by omega), i_l _ (by omega), lI_shl16, lI_add] at e2
  rw [e2, i_l _ (by omega), lI_shl16, lI_add]
  have e1 := div_tp (U * 65536) (t - 1)
  have e2 := div_tp (U * 65536) t
  have e3 := div_tp (U * 65536) (t + 1)
  rw [show t - 1 + 1 = t by omega] at e1
  rw [Nat.div_eq_of_lt (tp_mul_lt ht), dg_ups] at e3
  rw [e3] at e2
  rw [e2] at e1
  rw [e1] at k
  rw [show (((dg U t : Int) * 65536 + dg (U * 65536) t) * 65536 + dg (U * 65536) (t - 1)) = ((((0 * 65536 + dg U t) * 65536 + dg (U * 65536) t) * 65536 + dg (U * 65536) (t - 1) : Nat) : Int) by omega]
  exact k
/-- the guess of one place: never too small, at most one too large -/
theorem guess {U v p : Nat} (hv : 1 ≤ ln v) (hU : U < v * tp (p + 1)) :
    U * 65536 / tp (p + ln v - 1) / (v * 65536 / tp (ln v - 1)) ≤ 65536 ∧ U / (v * tp p) ≤ U * 65536 / tp (p + ln v - 1) / (v * 65536 / tp (ln v - 1)) ∧ U * 65536 / tp (p + ln v - 1) / (v * 65536 / tp (ln v - 1)) ≤ U / (v * tp p) + 1 := by
  obtain ⟨n, hn⟩ : ∃ n, ln v = n + 1 := ⟨ln v - 1, by omega⟩
  rw [hn, show p + (n + 1) - 1 = p + n by omega, show n + 1 - 1 = n by omega]
  have tn := tp_pos n
  have tpp := tp_pos p
  have tle : tp n ≤ v := tp_le_of_lt_ln (by omega)
  obtain ⟨V, hV⟩ : ∃ V, V = v * 65536 / tp n := ⟨_, rfl⟩
  have hV1 : 65536 ≤ V := by
    rw [hV, Nat.le_div_iff_mul_le tn, Nat.mul_comm]
    exact Nat.mul_le_mul_right _ tle
  have hv0 : 0 < v := Nat.lt_of_lt_of_le tn tle
  have hP : 0 < tp (p + n) := tp_pos _
  have hDP : v * 65536 * tp p / tp (p + n) = V := by
    rw [hV, tp_add, Nat.mul_comm (tp p) (tp n), Nat.mul_div_mul_right _ _ tpp]
  have hUD : U * 65536 / (v * 65536 * tp p) = U / (v * tp p) := by
    rw [show v * 65536 * tp p = v * tp p * 65536 by ac_rfl, Nat.mul_div_mul_right _ _ (by decide)]
  have hg : U * 65536 / tp (p + n) / V ≤ 65536 := by
    have h1 : U * 65536 < (V + 1) * 65536 * tp (p + n) := by
      have h2 : v * 65536 < (V + 1) * tp n := by
        rw [hV, ← Nat.div_lt_iff_lt_mul tn]
        omega
      have h3 : v * 65536 * tp p < (V + 1) * tp n * tp p := Nat.mul_lt_mul_of_pos_right h2 tpp
      rw [show (V + 1) * 65536 * tp (p + n) = (V + 1) * tp n * tp p * 65536 by rw [tp_add]; ac_rfl]
      rw [tp_succ] at hU
      refine (Nat.mul_lt_mul_right (by decide)).mpr ?_
      exact Nat.lt_trans hU (by rw [show v * (tp p * 65536) = v * 65536 * tp p by ac_rfl]; exact h3)
    have h4 : U * 65536 / tp (p + n) < (V + 1) * 65536 := (Nat.div_lt_iff_lt_mul hP).mpr h1
    have h5 : U * 65536 / tp (p + n) / V < 65537 := by
      refine (Nat.div_lt_iff_lt_mul (by omega)).mpr ?_
      omega
    omega
  have lo := est_lo (U := U * 65536) (D := v * 65536 * tp p) hP (by rw [hDP]; omega)
  rw [hDP, hUD] at lo
  rw [← hV]
  refine ⟨hg, lo, ?_⟩
  have hi := est_hi (U := U * 65536) (D := v * 65536 * tp p) (P := tp (p + n)) (g := U * 65536 / tp (p + n) / V) hP (Nat.mul_pos (Nat.mul_pos hv0 (by decide)) tpp) (by rw [hDP]; exact Nat.div_mul_le_self _ _) (by rw [hDP]; omega)
  rw [hUD] at hi
  exact hi
end
