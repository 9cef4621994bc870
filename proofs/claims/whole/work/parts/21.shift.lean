/-! ===== bits, shiftUp, shiftDown of the reference ===== -/
theorem sh_k : ∀ n, n < 32 → ((nI n &&& 31).toBitVec.smod 32).toNat = n := by decide +kernel
theorem nI_or {a b : Nat} (ha : a < 4294967296) (hb : b < 4294967296) : nI a ||| nI b = nI (a ||| b) := by
  apply Int32.toBitVec_inj.mp
  apply BitVec.eq_of_toNat_eq
  have hab : a ||| b < 2 ^ 32 := Nat.or_lt_two_pow ha hb
  rw [Int32.toBitVec_or, BitVec.toNat_or, pk_tn ha, pk_tn hb, pk_tn hab]
theorem or_add {h l k : Nat} (hl : l < 2 ^ k) : h * 2 ^ k ||| l = h * 2 ^ k + l := by
  rw [← Nat.shiftLeft_eq, Nat.shiftLeft_add_eq_or_of_lt hl]
theorem sl_bits_15 {pi le : Nat → Int32} {post : Int32 → Prop} {K : Int32 → Int32 → Prop} {v : Nat → Nat} {a n : Nat} (h : RS pi le v) (ha : a < 64) (hn : ln (v a) = n + 1)
    (kk : ∀ bl, 1 ≤ bl → bl ≤ 16 → 2 ^ (bl - 1) ≤ dg (v a) n → dg (v a) n < 2 ^ bl → K (nI (n + 1)) (nI bl)) :
    ∀ m k, k + m = 16 → (k = 0 ∨ 2 ^ (k - 1) ≤ dg (v a) n) → wl_X7_bits_15 pi le post K (m + 1) (nI a) (nI (n + 1)) (nI k) := by
  obtain ⟨a1, a2, a3⟩ := h a ha
  have l1 := dg_lt (v a) n
  have l0 : 0 < dg (v a) n := Nat.pos_of_ne_zero (dg_top hn)
  intro m
  induction m with
  | zero =>
    intro k hkm hk
    rw [wl_X7_bits_15, nI_pred]
    refine sp_digit h ha (by omega) ?_
    obtain rfl : k = 16 := by omega
    rw [pk_shrN (by omega) _ 16 (sh_k 16 (by decide)), Nat.div_eq_of_lt (by omega)]
    refine ⟨fun _ => kk 16 (by decide) (by decide) (hk.resolve_left (by decide)) (by omega), fun hc => absurd (show nI 0 ≤ 0 by decide) hc⟩
  | succ m ih =>
    intro k hkm hk
    rw [wl_X7_bits_15, nI_pred]
    refine sp_digit h ha (by omega) ?_
    rw [pk_shrN (by omega) _ k (sh_k k (by omega))]
    have hlt : dg (v a) n / 2 ^ k ≤ dg (v a) n := Nat.div_le_self _ _
    refine ⟨fun hc => ?_, fun hc x hx => ?_⟩
    · have hz : dg (v a) n / 2 ^ k = 0 := by
        rcases Nat.eq_zero_or_pos (dg (v a) n / 2 ^ k) with q | q
        · exact q
        · exact absurd hc (nI_nle q (by omega))
      have hlt2 : dg (v a) n < 2 ^ k := (Nat.div_eq_zero_iff_lt (Nat.two_pow_pos k)).mp hz
      have hk1 : 1 ≤ k := by
        rcases Nat.eq_zero_or_pos k with q | q
        · subst q; omega
        · exact q
      exact kk k hk1 (by omega) (hk.resolve_left (by omega)) hlt2
    · subst hx
      rw [nI_1]
      refine ih (k + 1) (by omega) (Or.inr ?_)
      rw [Nat.add_sub_cancel]
      rcases Nat.lt_or_ge (dg (v a) n) (2 ^ k) with q | q
      · rw [Nat.div_eq_of_lt q] at hc
        exact absurd (show nI 0 ≤ 0 by decide) hc
      · exact q
theorem sp_bits {pi le : Nat → Int32} {v : Nat → Nat} {a n : Nat} {post : Int32 → Prop} (h : RS pi le v) (ha : a < 64) (hn : ln (v a) = n + 1)
    (kk : ∀ bl, 1 ≤ bl → bl ≤ 16 → 2 ^ (bl - 1) ≤ dg (v a) n → dg (v a) n < 2 ^ bl → post (nI (16 * n + bl))) : wp_X7_bits pi le (nI a) post := by
  obtain ⟨a1, a2, a3⟩ := h a ha
  refine ⟨vp_in_nI ha (by decide), fun x2 e2 => ?_⟩
  rw [nI_clamp (by omega), a2, hn] at e2
  subst e2
  refine ⟨fun _ => ⟨17, sl_bits_15 h ha hn ?_ 16 0 (by decide) (Or.inl rfl)⟩, fun hc => absurd hc (nI_ne0 (by omega) (by omega))⟩
  intro bl h1 h2 h3 h4
  have e : (16 : Int32) * nI (n + 1) - 16 + nI bl = nI (16 * n + bl) := by
    rw [show (16 : Int32) = nI 16 from rfl, pk_mul, pk_sub (by omega), nI_add, show 16 * (n + 1) - 16 + bl = 16 * n + bl by omega]
  rw [e]
  exact kk bl h1 h2 h3 h4
/-- the digits of a number moved up by k < 16 bits -/
def du (x k i : Nat) : Nat := (dg x i * 2 ^ k + (if i = 0 then 0 else dg x (i - 1) / 2 ^ (16 - k))) % 65536
theorem pow16 {k : Nat} (hk : k ≤ 16) : 2 ^ k * 2 ^ (16 - k) = 65536 := by
  rw [← Nat.pow_add, show k + (16 - k) = 16 by omega]
theorem dg_shl (x : Nat) {k : Nat} (hk : k ≤ 16) (i : Nat) : dg (x * 2 ^ k) i = du x k i := by
  unfold du
  match i with
  | 0 =>
    rw [if_pos rfl]
    unfold dg
    rw [tp_0, Nat.div_one, Nat.div_one, Nat.add_zero, Nat.mod_mul_mod]
  | i + 1 =>
    rw [if_neg (by omega), Nat.add_sub_cancel]
    have hP := tp_pos i
    have hP1 := tp_pos (i + 1)
    have a := Nat.div_add_mod x (tp (i + 1))
    have e : x * 2 ^ k = (x % tp (i + 1)) * 2 ^ k + tp (i + 1) * (x / tp (i + 1) * 2 ^ k) := by
      have := congrArg (fun z => z * 2 ^ k) a
      simp only [Nat.add_mul, Nat.mul_assoc] at this
      omega
    have e2 : (x % tp (i + 1)) * 2 ^ k / tp (i + 1) = dg x i / 2 ^ (16 - k) := by
      have t1 : tp (i + 1) = tp i * 2 ^ (16 - k) * 2 ^ k := by
        rw [tp_succ, ← pow16 hk, Nat.mul_assoc, Nat.mul_comm (2 ^ k)]
      rw [t1, Nat.mul_div_mul_right _ _ (Nat.two_pow_pos k), ← t1, mod_tp_succ, ← Nat.div_div_eq_div_mul, Nat.add_mul_div_right _ _ hP, Nat.div_eq_of_lt (Nat.mod_lt _ hP), Nat.zero_add]
    unfold dg
    rw [e, Nat.add_mul_div_left _ _ hP1, e2]
    unfold dg
    rw [Nat.add_comm, Nat.add_mod, Nat.add_mod (x / tp (i + 1) % 65536 * 2 ^ k), Nat.mod_mul_mod]
theorem dg_shr (x : Nat) {k : Nat} (hk : k ≤ 16) (i : Nat) : dg (x / 2 ^ k) i = (dg x i / 2 ^ k + dg x (i + 1) * 2 ^ (16 - k)) % 65536 := by
  have e0 : x / 2 ^ k / tp i = x / tp i / 2 ^ k := by rw [Nat.div_div_eq_div_mul, Nat.mul_comm, ← Nat.div_div_eq_div_mul]
  have e1 := div_tp x i
  have e2 : (x / tp (i + 1) * 65536 + dg x i) / 2 ^ k = dg x i / 2 ^ k + x / tp (i + 1) * 2 ^ (16 - k) := by
    rw [← pow16 hk, show x / tp (i + 1) * (2 ^ k * 2 ^ (16 - k)) + dg x i = dg x i + 2 ^ k * (x / tp (i + 1) * 2 ^ (16 - k)) by rw [Nat.add_comm, Nat.mul_left_comm], Nat.add_mul_div_left _ _ (Nat.two_pow_pos k)]
  show x / 2 ^ k / tp i % 65536 = _
  rw [e0, e1, e2]
  show _ = (dg x i / 2 ^ k + x / tp (i + 1) % 65536 * 2 ^ (16 - k)) % 65536
  rw [Nat.add_mod, Nat.add_mod (dg x i / 2 ^ k) (x / tp (i + 1) % 65536 * 2 ^ (16 - k)), Nat.mod_mul_mod]
theorem word_up {hi lo k : Nat} (hh : hi < 65536) (hl : lo < 65536) (hk : k < 16) : ((nI hi <<< (nI k &&& 31)) ||| (nI lo >>> (((16 : Int32) - nI k) &&& 31))) &&& 65535 = nI ((hi * 2 ^ k + lo / 2 ^ (16 - k)) % 65536) := by
  have p1 : 2 ^ k ≤ 32768 := Nat.pow_le_pow_right (show 0 < 2 by decide) (show k ≤ 15 by omega)
  have p2 : hi * 2 ^ k ≤ 65535 * 32768 := Nat.mul_le_mul (by omega) p1
  have p3 : lo / 2 ^ (16 - k) < 2 ^ k := (Nat.div_lt_iff_lt_mul (Nat.two_pow_pos _)).mpr (by rw [pow16 (by omega)]; exact hl)
  rw [show (16 : Int32) - nI k = nI (16 - k) from pk_sub (a := 16) (by omega), pk_shlN _ k (sh_k k (by omega)) (by omega), pk_shrN (by omega) _ (16 - k) (sh_k (16 - k) (by omega)), nI_or (by omega) (by omega), or_add p3, pk_andN (by omega) 16 (by decide)]
theorem word_down {hi lo k : Nat} (hh : hi < 65536) (hl : lo < 65536) (hk : k < 16) : ((nI lo >>> (nI k &&& 31)) ||| (nI hi <<< (((16 : Int32) - nI k) &&& 31))) &&& 65535 = nI ((lo / 2 ^ k + hi * 2 ^ (16 - k)) % 65536) := by
  have p1 : 2 ^ (16 - k) ≤ 65536 := Nat.pow_le_pow_right (show 0 < 2 by decide) (show 16 - k ≤ 16 by omega)
  have p2 : hi * 2 ^ (16 - k) ≤ 65535 * 65536 := Nat.mul_le_mul (by omega) p1
  have p3 : lo / 2 ^ k < 2 ^ (16 - k) := (Nat.div_lt_iff_lt_mul (Nat.two_pow_pos _)).mpr (by rw [Nat.mul_comm, pow16 (by omega)]; exact hl)
  rw [show (16 : Int32) - nI k = nI (16 - k) from pk_sub (a := 16) (by omega), pk_shlN _ (16 - k) (sh_k (16 - k) (by omega)) (by omega), pk_shrN (by omega) _ k (sh_k k (by omega)), nI_or (by omega) (by omega), Nat.or_comm, or_add p3, pk_andN (by omega) 16 (by decide), Nat.add_comm]
theorem sl_shiftUp_28 {post : (Nat → Int32) → (Nat → Int32) → (Nat → Int32) → Prop} {K : (Nat → Int32) → (Nat → Int32) → (Nat → Int32) → Int32 → Int32 → Prop} {pi le : Nat → Int32} {v : Nat → Nat} {x1 : Int32} {a n k : Nat} (h : RS pi le v) (ha : a < 64) (hn : n ≤ 1501) (hk : k < 16)
    (kk : ∀ wo, (∀ j, j < n → wo j = nI (dg (v a * 2 ^ k) j)) → K pi le wo x1 (nI n)) :
    ∀ m i wo, i + m = n → (∀ j, j < i → wo j = nI (dg (v a * 2 ^ k) j)) → wl_X7_shiftUp_28 post K (m + 1) pi le wo x1 (nI a) 0 (nI k) (nI n) (nI i) := by
  intro m
  induction m with
  | zero =>
    intro i wo him h1
    rw [wl_X7_shiftUp_28]
    obtain rfl : i = n := by omega
    exact ⟨fun _ => kk wo h1, fun hc => absurd (nI_le (Nat.le_refl _) (by omega)) hc⟩
  | succ m ih =>
    intro i wo him h1
    rw [wl_X7_shiftUp_28]
    have fin : ∀ lo : Nat, lo < 65536 → (if i = 0 then 0 else dg (v a) (i - 1) / 2 ^ (16 - k)) = lo / 2 ^ (16 - k) → wj_X7_shiftUp_81 post (wl_X7_shiftUp_28 post K (m + 1)) K pi le wo x1 (nI a) 0 (nI k) (nI n) (nI i) (nI (dg (v a) i)) (nI lo) := by
      intro lo hlo e
      refine ⟨vp_in_nI (by omega) (by decide), fun x7 e7 => ?_⟩
      rw [nI_1] at e7
      subst e7
      rw [nI_clamp (by omega), word_up (dg_lt _ _) hlo hk]
      refine ih (i + 1) _ (by omega) (fun j hj => ?_)
      by_cases hji : j = i
      · subst hji
        rw [upd_s, dg_shl _ (by omega)]
        unfold du
        rw [e]
      · rw [upd_n hji]
        exact h1 j (by omega)
    refine ⟨fun hc => absurd hc (nI_ge (by omega) (by omega)), fun _ => ⟨fun hc => absurd hc (nI_pos (by omega)), fun _ => ?_⟩⟩
    rw [show nI i - 0 = nI i from pk_sub (b := 0) (by omega)]
    refine sp_digit h ha (by omega) ⟨fun hc => ?_, fun hc => ?_⟩
    · have hi0 : i = 0 := by
        rcases Nat.eq_zero_or_pos i with q | q
        · exact q
        · exact absurd hc (nI_nle q (by omega))
      exact fin 0 (by decide) (by rw [if_pos hi0, Nat.zero_div])
    · have hi0 : i ≠ 0 := fun z => hc (by rw [z]; decide)
      rw [show nI i - 0 = nI i from pk_sub (b := 0) (by omega), show nI i - 1 = nI (i - 1) from pk_sub (b := 1) (by omega)]
      refine sp_digit h ha (by omega) (fin _ (dg_lt _ _) (by rw [if_neg hi0]))
theorem sp_shiftUp {pi le wo : Nat → Int32} {v : Nat → Nat} {d a k : Nat} {post : (Nat → Int32) → (Nat → Int32) → (Nat → Int32) → Prop} (h : RS pi le v) (hd : d < 64) (ha : a < 64) (hk : k < 16) (hs : ln (v a * 2 ^ k) ≤ 1500)
    (kk : ∀ pi' le' wo', RS pi' le' (va_up v d (v a * 2 ^ k)) → post pi' le' wo') : wp_X7_shiftUp pi le wo (nI d) (nI a) (nI k) post := by
  obtain ⟨a1, a2, a3⟩ := h a ha
  intro x4 e4 x5 e5
  rw [show (16 : Int32) = nI 16 from rfl, pk_div (by omega) (by decide) (by decide), Nat.div_eq_of_lt hk] at e4
  rw [show (16 : Int32) = nI 16 from rfl, pk_rem (by omega) (by decide) (by decide), Nat.mod_eq_of_lt hk] at e5
  subst e4
  subst e5
  refine ⟨vp_in_nI ha (by decide), fun x6 e6 => ?_⟩
  rw [nI_clamp (by omega), a2, nI_add, nI_1] at e6
  subst e6
  refine ⟨ln (v a) + 0 + 1 + 1, sl_shiftUp_28 h ha (by omega) hk ?_ (ln (v a) + 0 + 1) 0 wo (by omega) (fun j hj => by omega)⟩
  intro wo' h1
  refine sp_take h hd (by omega) h1 ?_ hs (fun pi' le' h' => kk _ _ _ h')
  refine ln_le.mpr ?_
  rw [Nat.add_zero, tp_succ]
  exact Nat.lt_of_lt_of_le (Nat.mul_lt_mul_of_pos_right (lt_ln (v a)) (Nat.two_pow_pos k)) (Nat.mul_le_mul_left _ (by have : 2 ^ k ≤ 2 ^ 16 := Nat.pow_le_pow_right (by decide) (by omega); exact this))
theorem sl_shiftDown_11 {post : (Nat → Int32) → (Nat → Int32) → (Nat → Int32) → Prop} {K : (Nat → Int32) → (Nat → Int32) → (Nat → Int32) → Int32 → Int32 → Prop} {pi le : Nat → Int32} {v : Nat → Nat} {x1 : Int32} {a n k : Nat} (h : RS pi le v) (ha : a < 64) (hn : n ≤ 1500) (hk : k < 16)
    (kk : ∀ wo, (∀ j, j < n → wo j = nI (dg (v a / 2 ^ k) j)) → K pi le wo x1 (nI n)) :
    ∀ m i wo, i + m = n → (∀ j, j < i → wo j = nI (dg (v a / 2 ^ k) j)) → wl_X7_shiftDown_11 post K (m + 1) pi le wo x1 (nI a) (nI k) (nI n) (nI i) := by
  intro m
  induction m with
  | zero =>
    intro i wo him h1
    rw [wl_X7_shiftDown_11]
    obtain rfl : i = n := by omega
    exact ⟨fun _ => kk wo h1, fun hc => absurd (nI_le (Nat.le_refl _) (by omega)) hc⟩
  | succ m ih =>
    intro i wo him h1
    rw [wl_X7_shiftDown_11]
    refine ⟨fun hc => absurd hc (nI_ge (by omega) (by omega)), fun _ => sp_digit h ha (by omega) ?_⟩
    rw [nI_1]
    refine sp_digit h ha (by omega) ⟨vp_in_nI (by omega) (by decide), fun x5 e5 => ?_⟩
    subst e5
    rw [nI_clamp (by omega), word_down (dg_lt _ _) (dg_lt _ _) hk, ← dg_shr _ (by omega)]
    refine ih (i + 1) _ (by omega) (fun j hj => ?_)
    by_cases hji : j = i
    · subst hji
      rw [upd_s]
    · rw [upd_n hji]
      exact h1 j (by omega)
theorem sp_shiftDown {pi le wo : Nat → Int32} {v : Nat → Nat} {d a k : Nat} {post : (Nat → Int32) → (Nat → Int32) → (Nat → Int32) → Prop} (h : RS pi le v) (hd : d < 64) (ha : a < 64) (hk : k < 16)
    (kk : ∀ pi' le' wo', RS pi' le' (va_up v d (v a / 2 ^ k)) → post pi' le' wo') : wp_X7_shiftDown pi le wo (nI d) (nI a) (nI k) post := by
  obtain ⟨a1, a2, a3⟩ := h a ha
  refine ⟨vp_in_nI ha (by decide), fun x4 e4 => ?_⟩
  rw [nI_clamp (by omega), a2] at e4
  subst e4
  have hl : ln (v a / 2 ^ k) ≤ ln (v a) := ln_mono (Nat.div_le_self _ _)
  refine ⟨ln (v a) + 1, sl_shiftDown_11 h ha a1 hk ?_ (ln (v a)) 0 wo (by omega) (fun j hj => by omega)⟩
  intro wo' h1
  exact sp_take h hd (by omega) h1 hl (by omega) (fun pi' le' h' => kk _ _ _ h')
