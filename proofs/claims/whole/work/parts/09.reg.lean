/-! ===== THE REFERENCE'S REGISTERS AS NUMBERS: layer 2, own work ===== -/
def Rv (pi le : Nat → Int32) (r x : Nat) : Prop := ln x ≤ 1500 ∧ le r = nI (ln x) ∧ ∀ i, i < ln x → pi (1500 * r + i) = nI (dg x i)
def RS (pi le : Nat → Int32) (v : Nat → Nat) : Prop := ∀ r, r < 64 → Rv pi le r (v r)
theorem n1500 (a i : Nat) : (1500 : Int32) * nI a + nI i = nI (1500 * a + i) := by
  rw [show (1500 : Int32) = nI 1500 from rfl, pk_mul, nI_add]
theorem upd_s {f : Nat → Int32} {k : Nat} {x : Int32} : upd f k x k = x := pk_us
theorem upd_n {f : Nat → Int32} {k j : Nat} {x : Int32} (h : j ≠ k) : upd f k x j = f j := pk_un h
/-- a register that is written anew, the others as they were -/
theorem RS.put {pi le pi' le' : Nat → Int32} {v : Nat → Nat} {d x : Nat} (h : RS pi le v) (hd : Rv pi' le' d x) (hl : ∀ r, r < 64 → r ≠ d → le' r = le r) (hp : ∀ j, (j < 1500 * d ∨ 1500 * d + 1500 ≤ j) → pi' j = pi j) : RS pi' le' (va_up v d x) := by
  intro r hr
  by_cases hrd : r = d
  · subst hrd
    rw [va_up_self]
    exact hd
  · rw [va_up_ne v x hrd]
    obtain ⟨h1, h2, h3⟩ := h r hr
    refine ⟨h1, by rw [hl r hr hrd]; exact h2, fun i hi => ?_⟩
    rw [hp _ (by omega)]
    exact h3 i hi
theorem sp_digit {pi le : Nat → Int32} {v : Nat → Nat} {a i : Nat} {post : Int32 → Prop} (h : RS pi le v) (ha : a < 64) (hi : i < 1000000) (k : post (nI (dg (v a) i))) : wp_X7_digit pi le (nI a) (nI i) post := by
  obtain ⟨h1, h2, h3⟩ := h a ha
  refine ⟨vp_in_nI ha (by decide), fun hc => ?_, fun hc => ?_⟩
  · rw [nI_clamp (by omega), h2, nI_leI (by omega) (by omega)] at hc
    rw [dg_ge_ln hc] at k
    exact k
  · rw [nI_clamp (by omega), h2, nI_leI (by omega) (by omega)] at hc
    rw [n1500]
    refine ⟨vp_in_nI (by omega) (by decide), ?_⟩
    rw [nI_clamp (by omega), h3 i (by omega)]
    exact k
theorem sl_take_2 {wo : Nat → Int32} {post : (Nat → Int32) → (Nat → Int32) → Prop} {K : (Nat → Int32) → (Nat → Int32) → Int32 → Int32 → Prop} {pi le : Nat → Int32} {x1 : Int32} {w n : Nat} (hn : n ≤ 3010) (hw : ∀ i, i < n → wo i = nI (dg w i)) (k : K pi le x1 (nI (ln w))) :
    ∀ j, ln w ≤ j → j ≤ n → wl_X7_take_2 wo post K (j + 1) pi le x1 (nI j) := by
  intro j
  induction j with
  | zero =>
    intro h1 h2
    rw [wl_X7_take_2]
    refine ⟨fun _ => ?_, fun hc => absurd (show nI 0 ≤ 0 by decide) hc⟩
    have : ln w = 0 := by omega
    rw [this] at k
    exact k
  | succ j ih =>
    intro h1 h2
    rw [wl_X7_take_2]
    refine ⟨fun hc => absurd hc (nI_nle (by omega) (by omega)), fun _ => ?_⟩
    rw [nI_pred, nI_clamp (by omega), hw j (by omega)]
    refine ⟨vp_in_nI (by omega) (by decide), fun hc => ?_, fun hc x hx => ?_⟩
    · have : ln w = j + 1 := by
        rcases Nat.lt_or_ge j (ln w) with q | q
        · omega
        · exact absurd (by rw [dg_ge_ln q]; rfl) hc
      rw [this] at k
      exact k
    · subst hx
      rw [pk_m1]
      refine ih ?_ (by omega)
      rcases Nat.lt_or_ge j (ln w) with q | q
      · have e : ln w = j + 1 := by omega
        have := dg_lt w j
        exact absurd ((nI_eq (by omega) (by omega)).mp (hc.trans nI_0.symm)) (dg_top e)
      · exact q
theorem sl_take_26 {wo : Nat → Int32} {post : (Nat → Int32) → (Nat → Int32) → Prop} {K : (Nat → Int32) → (Nat → Int32) → Int32 → Int32 → Prop} {le : Nat → Int32} {d n : Nat} {g : Nat → Int32} (hd : d < 64) (hn : n ≤ 1500) (hg : ∀ i, i < n → wo i = g i) (pi0 : Nat → Int32)
    (k : ∀ pi, (∀ i, i < n → pi (1500 * d + i) = g i) → (∀ j, (j < 1500 * d ∨ 1500 * d + 1500 ≤ j) → pi j = pi0 j) → K pi le (nI d) (nI n)) :
    ∀ m i pi, i + m = n → (∀ a, a < i → pi (1500 * d + a) = g a) → (∀ j, (j < 1500 * d ∨ 1500 * d + 1500 ≤ j) → pi j = pi0 j) → wl_X7_take_26 wo post K (m + 1) pi le (nI d) (nI n) (nI i) := by
  intro m
  induction m with
  | zero =>
    intro i pi him h1 h2
    rw [wl_X7_take_26]
    obtain rfl : i = n := by omega
    exact ⟨fun _ => k pi h1 h2, fun hc => absurd (nI_le (Nat.le_refl _) (by omega)) hc⟩
  | succ m ih =>
    intro i pi him h1 h2
    rw [wl_X7_take_26]
    refine ⟨fun hc => absurd hc (nI_ge (by omega) (by omega)), fun _ => ⟨vp_in_nI (by omega) (by decide), ?_⟩⟩
    rw [n1500, nI_clamp (by omega), nI_clamp (by omega)]
    refine ⟨vp_in_nI (by omega) (by decide), fun x hx => ?_⟩
    subst hx
    rw [nI_1]
    refine ih (i + 1) _ (by omega) (fun a ha => ?_) (fun j hj => ?_)
    · by_cases hai : a = i
      · subst hai
        rw [upd_s]
        exact hg a (by omega)
      · rw [upd_n (by omega)]
        exact h1 a (by omega)
    · rw [upd_n (by omega)]
      exact h2 j hj
theorem sp_take {pi le wo : Nat → Int32} {v : Nat → Nat} {d n w : Nat} {post : (Nat → Int32) → (Nat → Int32) → Prop} (h : RS pi le v) (hd : d < 64) (hn : n ≤ 3010) (hw : ∀ i, i < n → wo i = nI (dg w i)) (hl : ln w ≤ n) (hl2 : ln w ≤ 1500)
    (k : ∀ pi' le', RS pi' le' (va_up v d w) → post pi' le') : wp_X7_take pi le wo (nI d) (nI n) post := by
  refine ⟨n + 1, sl_take_2 hn hw ?_ n hl (Nat.le_refl n)⟩
  refine ⟨ln w + 1, sl_take_26 (g := fun i => nI (dg w i)) hd hl2 (fun i hi => hw i (by omega)) pi ?_ (ln w) 0 pi (by omega) (fun a ha => by omega) (fun j _ => rfl)⟩
  intro pi' h1 h2
  refine ⟨vp_in_nI hd (by decide), k _ _ ?_⟩
  rw [nI_clamp (by omega)]
  refine h.put ⟨hl2, upd_s, h1⟩ (fun r hr hrd => upd_n hrd) h2
theorem sl_copy_2 {post : (Nat → Int32) → (Nat → Int32) → Prop} {K : (Nat → Int32) → (Nat → Int32) → Int32 → Int32 → Prop} {le : Nat → Int32} {d a n : Nat} (hd : d < 64) (ha : a < 64) (hda : d ≠ a) (hn : n ≤ 1500) (hl : le a = nI n) (pi0 : Nat → Int32)
    (k : ∀ pi, (∀ i, i < n → pi (1500 * d + i) = pi0 (1500 * a + i)) → (∀ j, (j < 1500 * d ∨ 1500 * d + 1500 ≤ j) → pi j = pi0 j) → K pi le (nI d) (nI a)) :
    ∀ m i pi, i + m = n → (∀ b, b < i → pi (1500 * d + b) = pi0 (1500 * a + b)) → (∀ j, (j < 1500 * d ∨ 1500 * d + 1500 ≤ j) → pi j = pi0 j) → wl_X7_copy_2 post K (m + 1) pi le (nI d) (nI a) (nI i) := by
  intro m
  induction m with
  | zero =>
    intro i pi him h1 h2
    rw [wl_X7_copy_2]
    obtain rfl : i = n := by omega
    refine ⟨vp_in_nI ha (by decide), fun _ => k pi h1 h2, fun hc => absurd ?_ hc⟩
    rw [nI_clamp (by omega), hl]
    exact nI_le (Nat.le_refl _) (by omega)
  | succ m ih =>
    intro i pi him h1 h2
    rw [wl_X7_copy_2]
    refine ⟨vp_in_nI ha (by decide), fun hc => absurd hc ?_, fun _ => ?_⟩
    · rw [nI_clamp (by omega), hl]
      exact nI_ge (by omega) (by omega)
    rw [n1500, n1500, nI_clamp (by omega), nI_clamp (by omega)]
    refine ⟨vp_in_nI (by omega) (by decide), vp_in_nI (by omega) (by decide), fun x hx => ?_⟩
    subst hx
    rw [nI_1]
    refine ih (i + 1) _ (by omega) (fun b hb => ?_) (fun j hj => ?_)
    · by_cases hbi : b = i
      · subst hbi
        rw [upd_s]
        exact h2 _ (by omega)
      · rw [upd_n (by omega)]
        exact h1 b (by omega)
    · rw [upd_n (by omega)]
      exact h2 j hj
theorem sp_copy {pi le : Nat → Int32} {v : Nat → Nat} {d a : Nat} {post : (Nat → Int32) → (Nat → Int32) → Prop} (h : RS pi le v) (hd : d < 64) (ha : a < 64) (hda : d ≠ a)
    (k : ∀ pi' le', RS pi' le' (va_up v d (v a)) → post pi' le') : wp_X7_copy pi le (nI d) (nI a) post := by
  obtain ⟨h1, h2, h3⟩ := h a ha
  refine ⟨ln (v a) + 1, sl_copy_2 hd ha hda h1 h2 pi ?_ (ln (v a)) 0 pi (by omega) (fun a ha => by omega) (fun j _ => rfl)⟩
  intro pi' h4 h5
  refine ⟨vp_in_nI ha (by decide), vp_in_nI hd (by decide), k _ _ ?_⟩
  rw [nI_clamp (by omega), nI_clamp (by omega), h2]
  exact h.put ⟨h1, upd_s, fun i hi => by rw [h4 i hi, h3 i hi]⟩ (fun r hr hrd => upd_n hrd) h5
theorem sp_small {pi le wo : Nat → Int32} {v : Nat → Nat} {d n : Nat} {post : (Nat → Int32) → (Nat → Int32) → (Nat → Int32) → Prop} (h : RS pi le v) (hd : d < 64) (hn : n < 2147483648)
    (k : ∀ pi' le' wo', RS pi' le' (va_up v d n) → post pi' le' wo') : wp_X7_small pi le wo (nI d) (nI n) post := by
  refine ⟨by unfold vp_in; decide, by unfold vp_in; decide, ?_⟩
  have e1 : nI n &&& 65535 = nI (n % 65536) := pk_andN (by omega) 16 (by decide)
  have e2 : ((nI n).toUInt32 >>> ((16 : Int32).toUInt32 &&& Int32.toUInt32 31)).toInt32 = nI (n / 65536) := pk_ushrN (by omega) 16 16 (by decide)
  have hl : ln n ≤ 2 := ln_le.mpr (by have : tp 2 = 4294967296 := rfl; omega)
  rw [e1, e2]
  refine sp_take (n := 2) h hd (by decide) (fun i hi => ?_) hl (by omega) (fun pi' le' h' => k _ _ _ h')
  match i, hi with
  | 0, _ =>
    rw [upd_n (by decide)]
    show upd wo 0 _ 0 = _
    rw [upd_s]
    unfold dg
    rw [tp_0, Nat.div_one]
  | 1, _ =>
    show upd _ 1 _ 1 = _
    rw [upd_s]
    unfold dg
    rw [tp_1, Nat.mod_eq_of_lt (show n / 65536 < 65536 by omega)]
theorem sl_order_45 {pi le : Nat → Int32} {v : Nat → Nat} {a b : Nat} {post : Int32 → Prop} {K64 : Int32 → Int32 → Int32 → Prop} {K91 : Prop} (h : RS pi le v) (ha : a < 64) (hb : b < 64) (k91 : v a = v b → K91)
    (k64 : ∀ i, i < 1500 → v a / tp (i + 1) = v b / tp (i + 1) → dg (v a) i ≠ dg (v b) i → K64 (nI a) (nI b) (nI i)) :
    ∀ j, j ≤ 1500 → v a / tp j = v b / tp j → wl_X7_order_45 pi le post K64 K91 (j + 1) (nI a) (nI b) (nI j - 1) := by
  intro j
  induction j with
  | zero =>
    intro hj hd
    rw [wl_X7_order_45]
    refine ⟨fun _ => k91 ?_, fun hc => absurd n0_lt hc⟩
    rw [tp_0, Nat.div_one, Nat.div_one] at hd
    exact hd
  | succ j ih =>
    intro hj hd
    rw [wl_X7_order_45, nI_pred]
    refine ⟨fun hc => absurd hc (nI_pos (by omega)), fun _ => ?_⟩
    refine sp_digit h ha (by omega) (sp_digit h hb (by omega) ?_)
    have l1 := dg_lt (v a) j
    have l2 := dg_lt (v b) j
    refine ⟨fun hc x hx => ?_, fun hc => k64 j (by omega) hd (fun z => hc (by rw [z]))⟩
    rw [nI_eq (by omega) (by omega)] at hc
    rw [hx, n_m1]
    refine ih (by omega) ?_
    rw [div_tp (v a), div_tp (v b), hd, hc]
theorem sp_order {pi le : Nat → Int32} {v : Nat → Nat} {a b : Nat} {post : Int32 → Prop} (h : RS pi le v) (ha : a < 64) (hb : b < 64) (k1 : v a < v b → post (-1)) (k2 : v a = v b → post 0) (k3 : v b < v a → post 1) : wp_X7_order pi le (nI a) (nI b) post := by
  obtain ⟨a1, a2, a3⟩ := h a ha
  obtain ⟨b1, b2, b3⟩ := h b hb
  refine ⟨vp_in_nI ha (by decide), vp_in_nI hb (by decide), fun hc => ⟨vp_in_nI ha (by decide), fun x hx => ?_⟩, fun hc => ⟨vp_in_nI ha (by decide), vp_in_nI hb (by decide), fun hd => ?_, fun hd => ?_⟩⟩
  · rw [nI_clamp (by omega), nI_clamp (by omega), a2, b2, nI_eq (by omega) (by omega)] at hc
    rw [nI_clamp (by omega), a2] at hx
    rw [hx]
    refine ⟨ln (v a) + 1, sl_order_45 h ha hb k2 ?_ (ln (v a)) a1 ?_⟩
    · intro i hi hd hne
      refine sp_digit h ha (by omega) (sp_digit h hb (by omega) ?_)
      have l1 := dg_lt (v a) i
      have l2 := dg_lt (v b) i
      rw [nI_leI (by omega) (by omega)]
      refine ⟨fun hle => k3 (lt_of_dg hd.symm (by omega)), fun hle => k1 (lt_of_dg hd (by omega))⟩
    · rw [Nat.div_eq_of_lt (lt_ln _), hc, Nat.div_eq_of_lt (lt_ln _)]
  · rw [nI_clamp (by omega), nI_clamp (by omega), a2, b2, nI_eq (by omega) (by omega)] at hc
    rw [nI_clamp (by omega), nI_clamp (by omega), a2, b2, nI_leI (by omega) (by omega)] at hd
    exact k3 (lt_of_ln (by omega))
  · rw [nI_clamp (by omega), nI_clamp (by omega), a2, b2, nI_eq (by omega) (by omega)] at hc
    rw [nI_clamp (by omega), nI_clamp (by omega), a2, b2, nI_leI (by omega) (by omega)] at hd
    exact k1 (lt_of_ln (by omega))
theorem sl_plus_38 {post : (Nat → Int32) → (Nat → Int32) → (Nat → Int32) → Prop} {K : (Nat → Int32) → (Nat → Int32) → (Nat → Int32) → Int32 → Int32 → Int32 → Prop} {pi le : Nat → Int32} {v : Nat → Nat} {x1 : Int32} {a b n : Nat} (h : RS pi le v) (ha : a < 64) (hb : b < 64) (hn : n ≤ 1500)
    (k : ∀ wo, (∀ j, j < n → wo j = nI (dg (v a + v b) j)) → K pi le wo x1 (nI n) (nI ((v a % tp n + v b % tp n) / tp n))) :
    ∀ m i wo, i + m = n → (∀ j, j < i → wo j = nI (dg (v a + v b) j)) → wl_X7_plus_38 post K (m + 1) pi le wo x1 (nI a) (nI b) (nI n) (nI ((v a % tp i + v b % tp i) / tp i)) (nI i) := by
  intro m
  induction m with
  | zero =>
    intro i wo him h1
    rw [wl_X7_plus_38]
    obtain rfl : i = n := by omega
    exact ⟨fun _ => k wo h1, fun hc => absurd (nI_le (Nat.le_refl _) (by omega)) hc⟩
  | succ m ih =>
    intro i wo him h1
    rw [wl_X7_plus_38]
    refine ⟨fun hc => absurd hc (nI_ge (by omega) (by omega)), fun _ => ?_⟩
    refine sp_digit h ha (by omega) (sp_digit h hb (by omega) ?_)
    intro x7 e7
    have l1 := dg_lt (v a) i
    have l2 := dg_lt (v b) i
    obtain ⟨c1, c2⟩ := add_carry (v a) (v b) i
    have l3 : (v a % tp i + v b % tp i) / tp i < 2 := (Nat.div_lt_iff_lt_mul (tp_pos i)).mpr (by have := Nat.mod_lt (v a) (tp_pos i); have := Nat.mod_lt (v b) (tp_pos i); omega)
    rw [nI_add, nI_add] at e7
    subst e7
    refine ⟨vp_in_nI (by omega) (by decide), fun x5 e5 x6 e6 => ?_⟩
    rw [pk_shrN (by omega) _ 16 (by decide), show (2 : Nat) ^ 16 = 65536 from rfl, ← c2] at e5
    rw [nI_1] at e6
    subst e5
    subst e6
    rw [nI_clamp (by omega), pk_andN (by omega) 16 (by decide), show (2 : Nat) ^ 16 = 65536 from rfl, ← c1]
    refine ih (i + 1) _ (by omega) (fun j hj => ?_)
    by_cases hji : j = i
    · subst hji
      rw [upd_s]
    · rw [upd_n hji]
      exact h1 j (by omega)
theorem sp_plus {pi le wo : Nat → Int32} {v : Nat → Nat} {d a b : Nat} {post : (Nat → Int32) → (Nat → Int32) → (Nat → Int32) → Prop} (h : RS pi le v) (hd : d < 64) (ha : a < 64) (hb : b < 64) (hs : ln (v a + v b) ≤ 1500)
    (k : ∀ pi' le' wo', RS pi' le' (va_up v d (v a + v b)) → post pi' le' wo') : wp_X7_plus pi le wo (nI d) (nI a) (nI b) post := by
  obtain ⟨a1, a2, a3⟩ := h a ha
  obtain ⟨b1, b2, b3⟩ := h b hb
  have key : ∀ n, n ≤ 1500 → v a < tp n → v b < tp n → wj_X7_plus_30 post pi le wo (nI d) (nI a) (nI b) (nI n) := by
    intro n hn h1 h2
    have e0 : (0 : Int32) = nI ((v a % tp 0 + v b % tp 0) / tp 0) := by
      rw [tp_0, Nat.mod_one, Nat.mod_one]; rfl
    refine ⟨n + 1, ?_⟩
    have := sl_plus_38 (post := post) (K := fun (pi : Nat → Int32) (le : Nat → Int32) (wo : Nat → Int32) (x1 : Int32) (x4 : Int32) (x5 : Int32) => vp_in x4 3010 ∧ wp_X7_take pi le (upd wo (x4 : Int32).toNatClampNeg x5) x1 (x4 + 1) (fun (pi_105 : Nat → Int32) (le_105 : Nat → Int32) => post pi_105 le_105 (upd wo (x4 : Int32).toNatClampNeg x5))) (x1 := nI d) h ha hb hn ?_ n 0 wo (by omega) (fun j hj => by omega)
    · rw [← e0] at this
      exact this
    · intro wo' h3
      refine ⟨vp_in_nI (by omega) (by decide), ?_⟩
      rw [nI_1, nI_clamp (by omega)]
      have hlt : v a + v b < 2 * tp n := by omega
      have hls : v a + v b < tp (n + 1) := by rw [tp_succ]; have := tp_pos n; omega
      refine sp_take (n := n + 1) h hd (by omega) (fun j hj => ?_) (ln_le.mpr hls) hs (fun pi' le' h' => k _ _ _ h')
      by_cases hjn : j = n
      · subst hjn
        rw [upd_s, mod_small h1, mod_small h2]
        unfold dg
        have : (v a + v b) / tp j < 2 := (Nat.div_lt_iff_lt_mul (tp_pos j)).mpr hlt
        rw [Nat.mod_eq_of_lt (by omega)]
      · rw [upd_n hjn]
        exact h3 j (by omega)
  refine ⟨vp_in_nI ha (by decide), vp_in_nI hb (by decide), fun hc => ⟨vp_in_nI hb (by decide), ?_⟩, fun hc => ⟨vp_in_nI ha (by decide), ?_⟩⟩
  · rw [nI_clamp (by omega), nI_clamp (by omega), a2, b2, nI_leI (by omega) (by omega)] at hc
    rw [nI_clamp (by omega), b2]
    exact key _ b1 (ln_le.mp hc) (lt_ln _)
  · rw [nI_clamp (by omega), nI_clamp (by omega), a2, b2, nI_leI (by omega) (by omega)] at hc
    rw [nI_clamp (by omega), a2]
    exact key _ a1 (lt_ln _) (ln_le.mp (by omega))
theorem sl_minus_14 {post : (Nat → Int32) → (Nat → Int32) → (Nat → Int32) → Prop} {K : (Nat → Int32) → (Nat → Int32) → (Nat → Int32) → Int32 → Int32 → Prop} {pi le : Nat → Int32} {v : Nat → Nat} {x1 : Int32} {a b n : Nat} (h : RS pi le v) (ha : a < 64) (hb : b < 64) (hn : n ≤ 1500) (hab : v b ≤ v a)
    (k : ∀ wo, (∀ j, j < n → wo j = nI (dg (v a - v b) j)) → K pi le wo x1 (nI n)) :
    ∀ m i wo, i + m = n → (∀ j, j < i → wo j = nI (dg (v a - v b) j)) → wl_X7_minus_14 post K (m + 1) pi le wo x1 (nI a) (nI b) (nI (bo (v a) (v b) i)) (nI n) (nI i) := by
  intro m
  induction m with
  | zero =>
    intro i wo him h1
    rw [wl_X7_minus_14]
    obtain rfl : i = n := by omega
    exact ⟨fun _ => k wo h1, fun hc => absurd (nI_le (Nat.le_refl _) (by omega)) hc⟩
  | succ m ih =>
    intro i wo him h1
    rw [wl_X7_minus_14]
    refine ⟨fun hc => absurd hc (nI_ge (by omega) (by omega)), fun _ => ?_⟩
    refine sp_digit h ha (by omega) (sp_digit h hb (by omega) ?_)
    intro x7 e7
    have l1 := dg_lt (v a) i
    have l2 := dg_lt (v b) i
    obtain ⟨c1, c2⟩ := sub_borrow hab i
    have l3 : bo (v a) (v b) i < 2 := by unfold bo; split <;> omega
    rw [nI_iI, nI_iI, nI_iI, iI_sub, iI_sub] at e7
    subst e7
    have step : ∀ t : Int32, t = nI (bo (v a) (v b) (i + 1)) → wj_X7_minus_63 post (wl_X7_minus_14 post K (m + 1)) K pi le (upd wo (nI i).toNatClampNeg (iI ((dg (v a) i : Int) - dg (v b) i - bo (v a) (v b) i) &&& 65535)) x1 (nI a) (nI b) (nI n) (nI i) t := by
      intro t et x6 e6
      rw [nI_1] at e6
      subst e6
      subst et
      rw [nI_clamp (by omega), iI_and16, ← c1]
      refine ih (i + 1) _ (by omega) (fun j hj => ?_)
      by_cases hji : j = i
      · subst hji
        rw [upd_s]
      · rw [upd_n hji]
        exact h1 j (by omega)
    refine ⟨vp_in_nI (by omega) (by decide), fun hc => step 0 ?_, fun hc => step 1 ?_⟩
    · rw [show (0 : Int32) = iI 0 from rfl, iI_le (by omega) (by omega)] at hc
      rw [c2, if_neg (by omega)]
      rfl
    · rw [show (0 : Int32) = iI 0 from rfl, iI_le (by omega) (by omega)] at hc
      rw [c2, if_pos (by omega)]
      rfl
theorem sp_minus {pi le wo : Nat → Int32} {v : Nat → Nat} {d a b : Nat} {post : (Nat → Int32) → (Nat → Int32) → (Nat → Int32) → Prop} (h : RS pi le v) (hd : d < 64) (ha : a < 64) (hb : b < 64) (hab : v b ≤ v a)
    (k : ∀ pi' le' wo', RS pi' le' (va_up v d (v a - v b)) → post pi' le' wo') : wp_X7_minus pi le wo (nI d) (nI a) (nI b) post := by
  obtain ⟨a1, a2, a3⟩ := h a ha
  refine ⟨vp_in_nI ha (by decide), fun x5 e5 => ?_⟩
  rw [nI_clamp (by omega), a2] at e5
  subst e5
  have hls : ln (v a - v b) ≤ ln (v a) := ln_mono (Nat.sub_le _ _)
  refine ⟨ln (v a) + 1, ?_⟩
  have := sl_minus_14 (post := post) (K := fun (pi : Nat → Int32) (le : Nat → Int32) (wo : Nat → Int32) (x1 : Int32) (x5 : Int32) => wp_X7_take pi le wo x1 x5 (fun (pi_75 : Nat → Int32) (le_75 : Nat → Int32) => post pi_75 le_75 wo)) (x1 := nI d) h ha hb a1 hab ?_ (ln (v a)) 0 wo (by omega) (fun j hj => by omega)
  · rw [bo_0] at this
    exact this
  · intro wo' h3
    exact sp_take h hd (by omega) h3 hls (by omega) (fun pi' le' h' => k _ _ _ h')
