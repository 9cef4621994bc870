/-! ===== the reference's times ===== -/
theorem lN_i' (n : Nat) : lI ((n : Nat) : Int) = lI n := rfl
theorem lI_and16n (v : Nat) : (lI v &&& 65535).toInt32 = nI (v % 65536) := by
  rw [lI_and16, show ((v : Int) % 65536) = ((v % 65536 : Nat) : Int) by omega, l_i]
theorem lI_shr16n {v : Nat} (h : v < 9223372036854775808) : lI v >>> ((16 : Int32).toInt64 &&& 63) = lI ((v / 65536 : Nat) : Int) := by
  rw [lI_shr16 (by omega) (by omega)]
  congr 1
theorem sl_times_18 {post : (Nat → Int32) → (Nat → Int32) → (Nat → Int32) → Prop} {K : (Nat → Int32) → (Nat → Int32) → (Nat → Int32) → Int32 → Int32 → Int32 → Int32 → Prop} {pi le : Nat → Int32} {x1 x2 x3 : Int32} {n : Nat} (hn : n ≤ 3010)
    (k : ∀ wo, (∀ j, j < n → wo j = 0) → K pi le wo x1 x2 x3 (nI n)) :
    ∀ m i wo, i + m = n → (∀ j, j < i → wo j = 0) → wl_X7_times_18 post K (m + 1) pi le wo x1 x2 x3 (nI n) (nI i) := by
  intro m
  induction m with
  | zero =>
    intro i wo him h1
    rw [wl_X7_times_18]
    obtain rfl : i = n := by omega
    exact ⟨fun _ => k wo h1, fun hc => absurd (nI_le (Nat.le_refl _) (by omega)) hc⟩
  | succ m ih =>
    intro i wo him h1
    rw [wl_X7_times_18]
    refine ⟨fun hc => absurd hc (nI_ge (by omega) (by omega)), fun _ => ⟨vp_in_nI (by omega) (by decide), fun x hx => ?_⟩⟩
    subst hx
    rw [nI_1, nI_clamp (by omega)]
    refine ih (i + 1) _ (by omega) (fun j hj => ?_)
    by_cases hji : j = i
    · subst hji
      rw [upd_s]
    · rw [upd_n hji]
      exact h1 j (by omega)
theorem step_alg {vD' vD Dp T r q v A Y c V0 M M' S J : Nat} (e1 : vD' + Dp * T = vD + r * T) (e2 : v = r + 65536 * q) (e3 : v = A * Y + Dp + c) (e4 : vD + c * T = V0 + A * M * S) (e5 : T = S * J) (e6 : M' = M + Y * J) : vD' + q * (T * 65536) = V0 + A * M' * S := by
  subst e5
  subst e6
  have h1 : (r + 65536 * q) * (S * J) = (A * Y + Dp + c) * (S * J) := by rw [← e2, ← e3]
  simp only [Nat.add_mul, Nat.mul_add, Nat.mul_assoc, Nat.mul_comm, Nat.mul_left_comm] at *
  omega
theorem sl_times_75 {post : (Nat → Int32) → (Nat → Int32) → (Nat → Int32) → Prop} {K : (Nat → Int32) → (Nat → Int32) → (Nat → Int32) → Int32 → Int32 → Int32 → Int32 → Int32 → Int64 → Prop} {pi le : Nat → Int32} {v : Nat → Nat} {x1 x2 x4 : Int32} {b i n A V0 : Nat} {D0 : Nat → Nat} (h : RS pi le v) (hb : b < 64) (hn : n ≤ 3000) (hin : i + ln (v b) < n) (hA : A < 65536)
    (k : ∀ wo D c, (∀ j, j < n → wo j = nI (D j) ∧ D j < 65536) → (∀ j, i + ln (v b) ≤ j → D j = D0 j) → c < 65536 → vl D n + c * tp (i + ln (v b)) = V0 + A * (v b % tp (ln (v b))) * tp i → K pi le wo x1 x2 (nI b) x4 (nI i) (lI (c : Nat))) :
    ∀ m j wo D c, j + m = ln (v b) → (∀ a, a < n → wo a = nI (D a) ∧ D a < 65536) → (∀ a, i + j ≤ a → D a = D0 a) → c < 65536 → vl D n + c * tp (i + j) = V0 + A * (v b % tp j) * tp i → wl_X7_times_75 post K (m + 1) pi le wo x1 x2 (nI b) x4 (nI i) (lI (c : Nat)) (lI (A : Nat)) (nI j) := by
  obtain ⟨b1, b2, b3⟩ := h b hb
  intro m
  induction m with
  | zero =>
    intro j wo D c hjm h1 h2 hc h3
    rw [wl_X7_times_75]
    obtain rfl : j = ln (v b) := by omega
    refine ⟨vp_in_nI hb (by decide), fun _ => k wo D c h1 h2 hc h3, fun hd => absurd ?_ hd⟩
    rw [nI_clamp (by omega), b2]
    exact nI_le (Nat.le_refl _) (by omega)
  | succ m ih =>
    intro j wo D c hjm h1 h2 hc h3
    rw [wl_X7_times_75]
    refine ⟨vp_in_nI hb (by decide), fun hd => absurd hd ?_, fun _ => ?_⟩
    · rw [nI_clamp (by omega), b2]
      exact nI_ge (by omega) (by omega)
    rw [n1500, nI_add, nI_clamp (by omega), nI_clamp (by omega)]
    refine ⟨vp_in_nI (by omega) (by decide), vp_in_nI (by omega) (by decide), fun x11 e11 => ⟨vp_in_nI (by omega) (by decide), fun x6 e6 x10 e10 => ?_⟩⟩
    obtain ⟨w1, w2⟩ := h1 (i + j) (by omega)
    have l2 := dg_lt (v b) j
    rw [b3 j (by omega), w1, i_l _ (by omega), i_l _ (by omega), lI_mul, lI_add, lI_add, ← Int.natCast_mul, ← Int.natCast_add, ← Int.natCast_add] at e11
    have hv : A * dg (v b) j ≤ 65535 * 65535 := Nat.mul_le_mul (by omega) (by omega)
    obtain ⟨vv, hvv⟩ : ∃ z, z = A * dg (v b) j + D (i + j) + c := ⟨_, rfl⟩
    rw [← hvv] at e11
    subst e11
    rw [lI_shr16n (by omega)] at e6
    rw [nI_1] at e10
    subst e6
    subst e10
    rw [lI_and16n]
    have up := vl_up (d := D) (k := i + j) (n := n) (v := vv % 65536) (by omega)
    refine ih (j + 1) _ (va_up D (i + j) (vv % 65536)) (vv / 65536) (by omega) (fun a ha => ?_) (fun a ha => ?_) (by omega) ?_
    · by_cases haj : a = i + j
      · subst haj
        rw [upd_s, va_up_self]
        exact ⟨rfl, by omega⟩
      · rw [upd_n haj, va_up_ne _ _ haj]
        exact h1 a ha
    · rw [va_up_ne _ _ (by omega)]
      exact h2 a (by omega)
    · rw [← Nat.add_assoc, tp_succ]
      exact step_alg up (by omega) hvv h3 (tp_add i j) (mod_tp_succ (v b) j)
theorem sl_times_42 {post : (Nat → Int32) → (Nat → Int32) → (Nat → Int32) → Prop} {K : (Nat → Int32) → (Nat → Int32) → (Nat → Int32) → Int32 → Int32 → Prop} {pi le : Nat → Int32} {v : Nat → Nat} {x1 : Int32} {a b n : Nat} (h : RS pi le v) (ha : a < 64) (hb : b < 64) (hn : n = ln (v a) + ln (v b))
    (k : ∀ wo D, (∀ j, j < n → wo j = nI (D j) ∧ D j < 65536) → vl D n = v a * v b → K pi le wo x1 (nI n)) :
    ∀ m i wo D, i + m = ln (v a) → (∀ j, j < n → wo j = nI (D j) ∧ D j < 65536) → vl D n = (v a % tp i) * v b → wl_X7_times_42 post K (m + 1) pi le wo x1 (nI a) (nI b) (nI n) (nI i) := by
  obtain ⟨a1, a2, a3⟩ := h a ha
  obtain ⟨b1, b2, b3⟩ := h b hb
  intro m
  induction m with
  | zero =>
    intro i wo D him h1 h3
    rw [wl_X7_times_42]
    obtain rfl : i = ln (v a) := by omega
    refine ⟨vp_in_nI ha (by decide), fun _ => k wo D h1 (by rw [h3, mod_small (lt_ln _)]), fun hd => absurd ?_ hd⟩
    rw [nI_clamp (by omega), a2]
    exact nI_le (Nat.le_refl _) (by omega)
  | succ m ih =>
    intro i wo D him h1 h3
    rw [wl_X7_times_42]
    refine ⟨vp_in_nI ha (by decide), fun hd => absurd hd ?_, fun _ => ?_⟩
    · rw [nI_clamp (by omega), a2]
      exact nI_ge (by omega) (by omega)
    rw [n1500, nI_clamp (by omega), a3 i (by omega)]
    have l1 := dg_lt (v a) i
    refine ⟨vp_in_nI (by omega) (by decide), fun x8 e8 => ?_⟩
    rw [i_l _ (by omega)] at e8
    subst e8
    have hD0 : ∀ j, i + ln (v b) ≤ j → j < n → D j = 0 := by
      intro j hj hjn
      rw [← dg_vl (fun q hq => (h1 q hq).2) hjn, h3]
      refine dg_ge (Nat.lt_of_lt_of_le ?_ (tp_mono hj))
      rw [tp_add]
      exact Nat.mul_lt_mul_of_lt_of_le (Nat.mod_lt _ (tp_pos i)) (Nat.le_of_lt (lt_ln _)) (Nat.lt_of_le_of_lt (Nat.zero_le _) (lt_ln _))
    have h0 : vl D n + 0 * tp (i + 0) = (v a % tp i) * v b + dg (v a) i * (v b % tp 0) * tp i := by
      rw [h3, tp_0, Nat.mod_one]
      omega
    refine ⟨ln (v b) + 1, sl_times_75 (A := dg (v a) i) (V0 := (v a % tp i) * v b) (D0 := D) h hb (by omega) (by omega) l1 ?_ (ln (v b)) 0 wo D 0 (by omega) h1 (fun _ _ => rfl) (by omega) h0⟩
    intro wo' D' c g1 g2 g3 g4
    refine ⟨vp_in_nI hb (by decide), ?_⟩
    rw [nI_clamp (by omega), b2, nI_add, nI_clamp (by omega)]
    refine ⟨vp_in_nI (by omega) (by decide), fun x5 e5 => ?_⟩
    rw [nI_1] at e5
    subst e5
    rw [l_i]
    have up := vl_up (d := D') (k := i + ln (v b)) (n := n) (v := c) (by omega)
    have hz : D' (i + ln (v b)) = 0 := by rw [g2 _ (Nat.le_refl _), hD0 _ (Nat.le_refl _) (by omega)]
    refine ih (i + 1) _ (va_up D' (i + ln (v b)) c) (by omega) (fun j hj => ?_) ?_
    · by_cases hji : j = i + ln (v b)
      · subst hji
        rw [upd_s, va_up_self]
        exact ⟨rfl, g3⟩
      · rw [upd_n hji, va_up_ne _ _ hji]
        exact g1 j hj
    · rw [hz, Nat.zero_mul, Nat.add_zero] at up
      rw [up, g4, mod_small (lt_ln (v b)), mod_tp_succ, Nat.add_mul]
      rw [Nat.mul_assoc, Nat.mul_comm (v b), Nat.mul_assoc]
theorem ln_mul_le (x y : Nat) : ln (x * y) ≤ ln x + ln y := by
  by_cases hx : x = 0
  · subst hx
    rw [Nat.zero_mul, ln_0]
    omega
  · refine ln_le.mpr ?_
    rw [tp_add]
    have h1 := lt_ln x
    have h2 := lt_ln y
    exact Nat.lt_of_le_of_lt (Nat.mul_le_mul_left x (Nat.le_of_lt h2)) (Nat.mul_lt_mul_of_pos_right h1 (tp_pos _))
theorem sp_times {pi le wo : Nat → Int32} {v : Nat → Nat} {d a b : Nat} {post : (Nat → Int32) → (Nat → Int32) → (Nat → Int32) → Prop} (h : RS pi le v) (hd : d < 64) (ha : a < 64) (hb : b < 64) (hs : ln (v a * v b) ≤ 1500)
    (k : ∀ pi' le' wo', RS pi' le' (va_up v d (v a * v b)) → post pi' le' wo') : wp_X7_times pi le wo (nI d) (nI a) (nI b) post := by
  obtain ⟨a1, a2, a3⟩ := h a ha
  obtain ⟨b1, b2, b3⟩ := h b hb
  refine ⟨vp_in_nI ha (by decide), vp_in_nI hb (by decide), fun x4 e4 => ?_⟩
  rw [nI_clamp (by omega), nI_clamp (by omega), a2, b2, nI_add] at e4
  subst e4
  obtain ⟨n, hn⟩ : ∃ n, n = ln (v a) + ln (v b) := ⟨_, rfl⟩
  rw [← hn]
  refine ⟨n + 1, sl_times_18 (by omega) ?_ n 0 wo (by omega) (fun j hj => by omega)⟩
  intro wo1 h1
  have z0 : vl (fun _ => 0) n = (v a % tp 0) * v b := by
    rw [tp_0, Nat.mod_one, Nat.zero_mul, vl_zero (n := 0) (Nat.zero_le n) (fun _ _ _ => rfl)]
    rfl
  refine ⟨ln (v a) + 1, sl_times_42 h ha hb hn ?_ (ln (v a)) 0 wo1 (fun _ => 0) (by omega) (fun j hj => ⟨by rw [h1 j hj]; rfl, by omega⟩) z0⟩
  intro wo2 D g1 g2
  refine sp_take h hd (by omega) (fun j hj => ?_) (by rw [hn]; exact ln_mul_le _ _) hs (fun pi' le' h' => k _ _ _ h')
  rw [(g1 j hj).1, ← g2, dg_vl (fun q hq => (g1 q hq).2) hj]
