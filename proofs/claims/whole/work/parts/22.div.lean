/-! ===== one digit of a quotient ===== -/
/-- a guess out of the leading digits: not too small, at most one too large -/
theorem est_lo {U D P : Nat} (hP : 0 < P) (hV : 0 < D / P) : U / D ≤ U / P / (D / P) := by
  rw [Nat.le_div_iff_mul_le hV, Nat.le_div_iff_mul_le hP, Nat.mul_assoc]
  exact Nat.le_trans (Nat.mul_le_mul_left _ (by rw [Nat.mul_comm]; exact Nat.mul_div_le D P)) (Nat.div_mul_le_self U D)
theorem est_hi {U D P g : Nat} (hP : 0 < P) (hD : 0 < D) (h1 : g * (D / P) ≤ U / P) (h2 : g ≤ D / P) : g ≤ U / D + 1 := by
  rcases Nat.eq_zero_or_pos g with q | q
  · rw [q]
    exact Nat.zero_le _
  · obtain ⟨k, rfl⟩ : ∃ k, g = k + 1 := ⟨g - 1, by omega⟩
    have h3 : D ≤ (D / P + 1) * P := by
      have a := Nat.div_add_mod D P
      have b := Nat.mod_lt D hP
      rw [Nat.add_mul, Nat.one_mul, Nat.mul_comm]
      omega
    have h4 : k * D ≤ U := by
      refine Nat.le_trans (Nat.mul_le_mul_left k h3) ?_
      rw [← Nat.mul_assoc]
      refine Nat.le_trans (Nat.mul_le_mul_right P (show k * (D / P + 1) ≤ U / P from ?_)) (Nat.div_mul_le_self U P)
      rw [Nat.add_mul, Nat.one_mul] at h1
      rw [Nat.mul_add, Nat.mul_one]
      omega
    have := (Nat.le_div_iff_mul_le hD).mpr h4
    omega
theorem vl_succ (d : Nat → Nat) (n : Nat) : vl d (n + 1) = vl d n + d n * tp n := rfl
theorem vl_div (u : Nat → Nat) (n : Nat) (h : ∀ i, i < n → u i < 65536) (m : Nat) : (vl u n + tp n * m) / tp n = m := by
  rw [Nat.add_mul_div_left _ _ (tp_pos n), Nat.div_eq_of_lt (vl_lt h), Nat.zero_add]
theorem sub_alg {vD b vu g vw ui wi T d q t : Int} (e1 : vD - b * T = vu - g * vw) (et : t = ui - b - g * wi) (ed : t = d + 65536 * q) : (vD + d * T) - (-q) * (T * 65536) = (vu + ui * T) - g * (vw + wi * T) := by
  have h : (d + 65536 * q) * T = (ui - b - g * wi) * T := by rw [← ed, ← et]
  simp only [Int.sub_mul, Int.add_mul, Int.mul_add, Int.mul_sub, Int.neg_mul, Int.mul_neg, Int.mul_assoc, Int.mul_comm, Int.mul_left_comm] at *
  omega
theorem sl_oneDigit_100 {post : Int32 → (Nat → Int32) → Prop} {K : (Nat → Int32) → Int32 → Int32 → Int32 → Int64 → Prop} {pi : Nat → Int32} {x1 x2 x3 : Int32} {lead next bel high q V2 U3 : Nat} (hl1 : 32768 ≤ lead) (hl2 : lead < 65536) (hnx : next < 65536) (hbl : bel < 65536) (hV : V2 = lead * 65536 + next) (hU : U3 = high * 65536 + bel) (hq : q ≤ 65535) (hqU : q ≤ U3 / V2)
    (k : ∀ g, q ≤ g → g ≤ 65536 → g * V2 ≤ U3 → K pi x1 x2 x3 (lI (g : Nat))) :
    ∀ m g r, 65536 ≤ r + m * lead → r < 262144 → g * lead + r = high → q ≤ g → g ≤ 65537 → (65536 ≤ r → g ≤ 65536) → wl_X7_oneDigit_100 post K (m + 1) pi x1 x2 x3 (lI (lead : Nat)) (lI (next : Nat)) (lI (bel : Nat)) (lI (g : Nat)) (lI (r : Nat)) := by
  have hV0 : 0 < V2 := by omega
  intro m
  induction m with
  | zero =>
    intro g r h1 h2 h3 h4 h5 h6
    rw [wl_X7_oneDigit_100]
    have hr : 65536 ≤ r := by omega
    have hg := h6 hr
    have hgn : g * next ≤ 65536 * 65535 := Nat.mul_le_mul hg (by omega)
    refine ⟨fun _ => k g h4 hg ?_, fun hc => absurd ((lI_le (a := 65536) (by omega) (by omega)).mpr (by omega)) hc⟩
    rw [hV, hU, ← h3, Nat.mul_add, Nat.add_mul, ← Nat.mul_assoc]
    omega
  | succ m ih =>
    intro g r h1 h2 h3 h4 h5 h6
    rw [wl_X7_oneDigit_100]
    rw [Nat.add_mul, Nat.one_mul] at h1
    have dec : q + 1 ≤ g → r < 65536 → wj_X7_oneDigit_135 post (wl_X7_oneDigit_100 post K (m + 1)) K pi x1 x2 x3 (lI (lead : Nat)) (lI (next : Nat)) (lI (bel : Nat)) (lI (g : Nat)) (lI (r : Nat)) := by
      intro hqg hr x12 e12 x14 e14
      rw [show (1 : Int64) = lI 1 from rfl, lI_sub, show ((g : Int) - 1) = ((g - 1 : Nat) : Int) by omega] at e12
      rw [lI_add, ← Int.natCast_add] at e14
      subst e12
      subst e14
      refine ih (g - 1) (r + lead) (by omega) (by omega) ?_ (by omega) (by omega) (by omega)
      obtain ⟨g', rfl⟩ : ∃ g', g = g' + 1 := ⟨g - 1, by omega⟩
      rw [Nat.add_mul, Nat.one_mul] at h3
      rw [Nat.add_sub_cancel]
      omega
    have hgn : g * next ≤ 65537 * 65535 := Nat.mul_le_mul h5 (by omega)
    refine ⟨fun hc => ?_, fun hc => ⟨fun hd => ?_, fun hd => ⟨fun hf => ?_, fun hf => ?_⟩⟩⟩
    · have hr : 65536 ≤ r := by
        have := (lI_le (a := 65536) (b := (r : Int)) (by omega) (by omega)).mp hc
        omega
      have hg := h6 hr
      have hgn : g * next ≤ 65536 * 65535 := Nat.mul_le_mul hg (by omega)
      refine k g h4 hg ?_
      rw [hV, hU, ← h3, Nat.mul_add, Nat.add_mul, ← Nat.mul_assoc]
      omega
    · have hr : r < 65536 := by
        rcases Nat.lt_or_ge r 65536 with z | z
        · exact z
        · exact absurd ((lI_le (a := 65536) (b := (r : Int)) (by omega) (by omega)).mpr (by omega)) hc
      have hg := (lI_lt (a := 65535) (b := (g : Int)) (by omega) (by omega)).mp hd
      exact dec (by omega) hr
    · have hg : g ≤ 65535 := by
        rcases Nat.lt_or_ge 65535 g with z | z
        · exact absurd ((lI_lt (a := 65535) (b := (g : Int)) (by omega) (by omega)).mpr (by omega)) hd
        · exact z
      rw [lI_mul, lI_shl16, lI_add, ← Int.natCast_mul, lI_le (by omega) (by omega)] at hf
      refine k g h4 (by omega) ?_
      rw [hV, hU, ← h3, Nat.mul_add, Nat.add_mul, ← Nat.mul_assoc]
      omega
    · have hr : r < 65536 := by
        rcases Nat.lt_or_ge r 65536 with z | z
        · exact z
        · exact absurd ((lI_le (a := 65536) (b := (r : Int)) (by omega) (by omega)).mpr (by omega)) hc
      rw [lI_mul, lI_shl16, lI_add, ← Int.natCast_mul, lI_le (by omega) (by omega)] at hf
      refine dec ?_ hr
      have h7 : U3 < g * V2 := by
        rw [hV, hU, ← h3, Nat.mul_add, Nat.add_mul, ← Nat.mul_assoc]
        omega
      have h8 : U3 / V2 < g := (Nat.div_lt_iff_lt_mul hV0).mpr h7
      omega
theorem sl_oneDigit_157 {post : Int32 → (Nat → Int32) → Prop} {K : (Nat → Int32) → Int32 → Int32 → Int32 → Int64 → Int64 → Prop} {pi0 : Nat → Int32} {f n g : Nat} {u w : Nat → Nat} (hf : f + n < 94500) (hn : n ≤ 1500) (hu : ∀ i, i ≤ n → pi0 (f + i) = nI (u i) ∧ u i < 65536) (hw : ∀ i, i < n → pi0 (94500 + i) = nI (w i) ∧ w i < 65536) (hg : g ≤ 65536)
    (k : ∀ (pi : Nat → Int32) (D : Nat → Nat) (b : Nat), (∀ j, j < n → pi (f + j) = nI (D j) ∧ D j < 65536) → (∀ j, (j < f ∨ f + n ≤ j) → pi j = pi0 j) → b ≤ 65536 → (vl D n : Int) - b * tp n = vl u n - g * vl w n → K pi (nI f) (nI n) 94500 (lI (g : Nat)) (lI (b : Nat))) :
    ∀ (m i : Nat) (pi : Nat → Int32) (D : Nat → Nat) (b : Nat), i + m = n → (∀ j, j < i → pi (f + j) = nI (D j) ∧ D j < 65536) → (∀ j, (j < f ∨ f + i ≤ j) → pi j = pi0 j) → b ≤ 65536 → (vl D i : Int) - (b : Nat) * tp i = vl u i - g * vl w i → wl_X7_oneDigit_157 post K (m + 1) pi (nI f) (nI n) 94500 (lI (g : Nat)) (lI (b : Nat)) (nI i) := by
  intro m
  induction m with
  | zero =>
    intro i pi D b him h1 h2 h3 h4
    rw [wl_X7_oneDigit_157]
    obtain rfl : i = n := by omega
    exact ⟨fun _ => k pi D b h1 h2 h3 h4, fun hc => absurd (nI_le (Nat.le_refl _) (by omega)) hc⟩
  | succ m ih =>
    intro i pi D b him h1 h2 h3 h4
    rw [wl_X7_oneDigit_157]
    refine ⟨fun hc => absurd hc (nI_ge (by omega) (by omega)), fun _ => ?_⟩
    rw [nI_add, show (94500 : Int32) + nI i = nI (94500 + i) from nI_add 94500 i, nI_clamp (by omega), nI_clamp (by omega)]
    obtain ⟨u1, u2⟩ := hu i (by omega)
    obtain ⟨w1, w2⟩ := hw i (by omega)
    refine ⟨vp_in_nI (by omega) (by decide), vp_in_nI (by omega) (by decide), fun x19 e19 => ⟨vp_in_nI (by omega) (by decide), fun x16 e16 x18 e18 => ?_⟩⟩
    rw [h2 (f + i) (by omega), u1, h2 (94500 + i) (by omega), w1, i_l _ (by omega), i_l _ (by omega), lI_sub, lI_mul, lI_sub] at e19
    obtain ⟨t, ht⟩ : ∃ t : Int, t = (u i : Int) - b - g * w i := ⟨_, rfl⟩
    rw [← ht] at e19
    subst e19
    have hgw : g * w i ≤ 65536 * 65535 := Nat.mul_le_mul hg (by omega)
    have hgw2 : (g : Int) * (w i : Int) = ((g * w i : Nat) : Int) := (Int.natCast_mul _ _).symm
    rw [hgw2] at ht
    rw [lI_shr16 (by omega) (by omega), lI_neg, show (-(t / 65536)) = ((-(t / 65536)).toNat : Int) by omega] at e16
    rw [nI_1] at e18
    subst e16
    subst e18
    rw [lI_and16, show t % 65536 = ((t % 65536).toNat : Int) by omega, l_i]
    refine ih (i + 1) _ (va_up D i (t % 65536).toNat) (-(t / 65536)).toNat (by omega) (fun j hj => ?_) (fun j hj => ?_) (by omega) ?_
    · by_cases hji : j = i
      · subst hji
        rw [upd_s, va_up_self]
        exact ⟨rfl, by omega⟩
      · rw [upd_n (by omega), va_up_ne _ _ hji]
        exact h1 j (by omega)
    · rw [upd_n (by omega)]
      exact h2 j (by omega)
    · rw [vl_succ, vl_succ, vl_succ, va_up_self, vl_up_ge (Nat.le_refl i), tp_succ]
      have hh := sub_alg (t := t) (ui := (u i : Int)) (wi := (w i : Int)) (d := t % 65536) (q := t / 65536) h4 (by rw [ht, hgw2]) (by omega)
      have c1 : (((t % 65536).toNat : Nat) : Int) = t % 65536 := by omega
      have c2 : (((-(t / 65536)).toNat : Nat) : Int) = -(t / 65536) := by omega
      simp only [Int.natCast_add, Int.natCast_mul, c1, c2]
      exact hh
theorem sl_oneDigit_268 {post : Int32 → (Nat → Int32) → Prop} {K : (Nat → Int32) → Int32 → Int32 → Int64 → Int32 → Prop} {pi0 : Nat → Int32} {x12 : Int64} {f n : Nat} {u w : Nat → Nat} (hf : f + n < 94500) (hn : n ≤ 1500) (hu : ∀ i, i < n → pi0 (f + i) = nI (u i) ∧ u i < 65536) (hw : ∀ i, i < n → pi0 (94500 + i) = nI (w i) ∧ w i < 65536)
    (k : ∀ pi D c, (∀ j, j < n → pi (f + j) = nI (D j) ∧ D j < 65536) → (∀ j, (j < f ∨ f + n ≤ j) → pi j = pi0 j) → c ≤ 1 → vl D n + c * tp n = vl u n + vl w n → K pi (nI f) (nI n) x12 (nI c)) :
    ∀ m i pi D c, i + m = n → (∀ j, j < i → pi (f + j) = nI (D j) ∧ D j < 65536) → (∀ j, (j < f ∨ f + i ≤ j) → pi j = pi0 j) → c ≤ 1 → vl D i + c * tp i = vl u i + vl w i → wl_X7_oneDigit_268 post K (m + 1) pi (nI f) (nI n) 94500 x12 (nI c) (nI i) := by
  intro m
  induction m with
  | zero =>
    intro i pi D c him h1 h2 h3 h4
    rw [wl_X7_oneDigit_268]
    obtain rfl : i = n := by omega
    exact ⟨fun _ => k pi D c h1 h2 h3 h4, fun hc => absurd (nI_le (Nat.le_refl _) (by omega)) hc⟩
  | succ m ih =>
    intro i pi D c him h1 h2 h3 h4
    rw [wl_X7_oneDigit_268]
    refine ⟨fun hc => absurd hc (nI_ge (by omega) (by omega)), fun _ => ?_⟩
    rw [nI_add, show (94500 : Int32) + nI i = nI (94500 + i) from nI_add 94500 i, nI_clamp (by omega), nI_clamp (by omega)]
    obtain ⟨u1, u2⟩ := hu i (by omega)
    obtain ⟨w1, w2⟩ := hw i (by omega)
    refine ⟨vp_in_nI (by omega) (by decide), vp_in_nI (by omega) (by decide), fun x22 e22 => ⟨vp_in_nI (by omega) (by decide), fun x20 e20 x21 e21 => ?_⟩⟩
    rw [h2 (f + i) (by omega), u1, h2 (94500 + i) (by omega), w1, nI_add, nI_add] at e22
    subst e22
    rw [pk_shrN (by omega) _ 16 (by decide), show (2 : Nat) ^ 16 = 65536 from rfl] at e20
    rw [nI_1] at e21
    subst e20
    subst e21
    rw [pk_andN (by omega) 16 (by decide), show (2 : Nat) ^ 16 = 65536 from rfl]
    obtain ⟨t, ht⟩ : ∃ t : Nat, t = u i + w i + c := ⟨_, rfl⟩
    rw [← ht]
    refine ih (i + 1) _ (va_up D i (t % 65536)) (t / 65536) (by omega) (fun j hj => ?_) (fun j hj => ?_) (by omega) ?_
    · by_cases hji : j = i
      · subst hji
        rw [upd_s, va_up_self]
        exact ⟨rfl, by omega⟩
      · rw [upd_n (by omega), va_up_ne _ _ hji]
        exact h1 j (by omega)
    · rw [upd_n (by omega)]
      exact h2 j (by omega)
    · rw [vl_succ, vl_succ, vl_succ, va_up_self, vl_up_ge (Nat.le_refl i), tp_succ]
      have h5 : (t % 65536 + 65536 * (t / 65536)) * tp i = (u i + w i + c) * tp i := by rw [← ht, Nat.mod_add_div]
      simp only [Nat.add_mul, Nat.mul_add, Nat.mul_assoc, Nat.mul_comm, Nat.mul_left_comm] at *
      omega
theorem sp_oneDigit {pi : Nat → Int32} {f n : Nat} {u w : Nat → Nat} {post : Int32 → (Nat → Int32) → Prop} (hf : f + n < 94500) (hn0 : 1 ≤ n) (hn : n ≤ 1500) (hu : ∀ i, i ≤ n → pi (f + i) = nI (u i) ∧ u i < 65536) (hw : ∀ i, i < n → pi (94500 + i) = nI (w i) ∧ w i < 65536) (hlead : 32768 ≤ w (n - 1)) (hU : vl u (n + 1) < 65536 * vl w n)
    (k : ∀ pi', (∀ i, i ≤ n → pi' (f + i) = nI (dg (vl u (n + 1) % vl w n) i)) → (∀ j, (j < f ∨ f + n < j) → pi' j = pi j) → post (nI (vl u (n + 1) / vl w n)) pi') : wp_X7_oneDigit pi (nI f) (nI n) post := by
  obtain ⟨p, rfl⟩ : ∃ p, n = p + 1 := ⟨n - 1, by omega⟩
  rw [Nat.add_sub_cancel] at hlead
  obtain ⟨un1, un2⟩ := hu (p + 1) (Nat.le_refl _)
  obtain ⟨up1, up2⟩ := hu p (by omega)
  obtain ⟨wp1, wp2⟩ := hw p (by omega)
  have hV0 : 0 < vl w (p + 1) := by
    rw [vl_succ]
    have : 1 * tp p ≤ w p * tp p := Nat.mul_le_mul_right _ (by omega)
    have := tp_pos p
    omega
  have hVt : vl w (p + 1) < tp (p + 1) := vl_lt (fun i hi => (hw i hi).2)
  obtain ⟨q, hq⟩ : ∃ q, q = vl u (p + 1 + 1) / vl w (p + 1) := ⟨_, rfl⟩
  have hq2 : q ≤ 65535 := by
    rw [hq]
    have := (Nat.div_lt_iff_lt_mul hV0).mpr hU
    omega
  have hdm := Nat.div_add_mod (vl u (p + 1 + 1)) (vl w (p + 1))
  rw [← hq] at hdm
  have hml := Nat.mod_lt (vl u (p + 1 + 1)) hV0
  -- behind the guess
  have fin : ∀ g : Nat, q ≤ g → g ≤ 65536 → g ≤ q + 1 → wj_X7_oneDigit_151 post pi (nI f) (nI (p + 1)) 94500 (lI (g : Nat)) := by
    intro g hg1 hg2 hg3
    refine ⟨p + 1 + 1, sl_oneDigit_157 hf hn hu hw hg2 ?_ (p + 1) 0 pi (fun _ => 0) 0 (by omega) (fun j hj => by omega) (fun j _ => rfl) (by omega) (by simp [vl])⟩
    intro pi1 D b h1 h2 h3 h4
    refine ⟨?_, ?_⟩
    · rw [nI_add]
      exact vp_in_nI (by omega) (by decide)
    intro x18 e18
    rw [nI_add, nI_clamp (by omega), h2 _ (by omega), un1, i_l _ (by omega), lI_sub] at e18
    subst e18
    obtain ⟨t, ht⟩ : ∃ t : Int, t = (u (p + 1) : Int) - b := ⟨_, rfl⟩
    have hDl : vl D (p + 1) < tp (p + 1) := vl_lt (fun i hi => (h1 i hi).2)
    have hsum : (vl u (p + 1 + 1) : Int) - g * vl w (p + 1) = vl D (p + 1) + t * tp (p + 1) := by
      rw [vl_succ u (p + 1), ht, Int.sub_mul]
      push_cast
      omega
    have hdmI : (vl w (p + 1) : Int) * q + ((vl u (p + 1 + 1) % vl w (p + 1) : Nat) : Int) = vl u (p + 1 + 1) := by
      rw [← Int.natCast_mul, ← Int.natCast_add, hdm]
    have hT := tp_pos (p + 1)
    rw [← ht, show (0 : Int64) = lI 0 from rfl, lI_lt (by omega) (by omega), nI_add, nI_clamp (by omega)]
    refine ⟨vp_in_nI (by omega) (by decide), fun hneg => ?_, fun hpos => ?_⟩
    · -- too large by one
      have hgq : g = q + 1 := by
        rcases Nat.lt_or_ge q g with z | z
        · omega
        · exfalso
          have : g = q := by omega
          subst this
          have h5 : t * (tp (p + 1) : Int) ≤ -1 * (tp (p + 1) : Int) := Int.mul_le_mul_of_nonneg_right (by omega) (by omega)
          rw [Int.mul_comm (vl w (p + 1) : Int)] at hdmI
          omega
      rw [lI_and16, show t % 65536 = ((t % 65536).toNat : Int) by omega, l_i]
      obtain ⟨pi2, hpi2⟩ : ∃ z, z = upd pi1 (f + (p + 1)) (nI (t % 65536).toNat) := ⟨_, rfl⟩
      rw [← hpi2]
      refine ⟨p + 1 + 1, sl_oneDigit_268 (u := D) (w := w) (pi0 := pi2) hf hn (fun i hi => ?_) (fun i hi => ?_) ?_ (p + 1) 0 pi2 (fun _ => 0) 0 (by omega) (fun j hj => by omega) (fun j _ => rfl) (by omega) (by simp [vl])⟩
      · rw [hpi2, upd_n (by omega)]
        exact h1 i hi
      · rw [hpi2, upd_n (by omega), h2 _ (by omega)]
        exact hw i hi
      intro pi3 E c g1 g2 g3 g4
      have hEl : vl E (p + 1) < tp (p + 1) := vl_lt (fun i hi => (g1 i hi).2)
      have hsum2 : ((vl u (p + 1 + 1) % vl w (p + 1) : Nat) : Int) = vl E (p + 1) + (c + t) * tp (p + 1) := by
        rw [hgq] at hsum
        rw [Int.add_mul, ← Int.natCast_mul]
        push_cast at hsum
        rw [Int.add_mul, Int.one_mul, Int.mul_comm (q : Int)] at hsum
        omega
      have hct : c + t = 0 := by
        rcases Int.lt_trichotomy (c + t) 0 with z | z | z
        · exfalso
          have h5 : (c + t) * (tp (p + 1) : Int) ≤ -1 * (tp (p + 1) : Int) := Int.mul_le_mul_of_nonneg_right (by omega) (by omega)
          omega
        · exact z
        · exfalso
          have h5 : 1 * (tp (p + 1) : Int) ≤ (c + t) * (tp (p + 1) : Int) := Int.mul_le_mul_of_nonneg_right (by omega) (by omega)
          omega
      rw [hct, Int.zero_mul, Int.add_zero] at hsum2
      have hEm : vl u (p + 1 + 1) % vl w (p + 1) = vl E (p + 1) := by omega
      have htop : pi3 (f + (p + 1)) = nI 65535 := by
        rw [g2 _ (by omega), hpi2, upd_s]
        congr 1
        omega
      have hc1 : c = 1 := by omega
      rw [nI_add, nI_clamp (by omega)]
      refine ⟨vp_in_nI (by omega) (by decide), vp_in_nI (by omega) (by decide), ?_⟩
      rw [l_i, hgq, nI_pred, htop, hc1, show (nI 65535 + nI 1) &&& 65535 = nI 0 by decide, hq]
      refine k _ (fun i hi => ?_) (fun j hj => ?_)
      · by_cases hin : i = p + 1
        · subst hin
          rw [upd_s, dg_ge (Nat.lt_trans hml hVt)]
        · rw [upd_n (by omega), (g1 i (by omega)).1, hEm, dg_vl (fun z hz => (g1 z hz).2) (by omega)]
      · rw [upd_n (by omega), g2 _ (by omega), hpi2, upd_n (by omega), h2 _ (by omega)]
    · -- right
      have hgq : g = q := by
        rcases Nat.lt_or_ge q g with z | z
        · exfalso
          have : g = q + 1 := by omega
          subst this
          have h5 : 0 * (tp (p + 1) : Int) ≤ t * (tp (p + 1) : Int) := Int.mul_le_mul_of_nonneg_right (by omega) (by omega)
          push_cast at hsum
          rw [Int.add_mul, Int.one_mul, Int.mul_comm (q : Int)] at hsum
          omega
        · omega
      subst hgq
      rw [Int.mul_comm (vl w (p + 1) : Int)] at hdmI
      have ht0 : t = 0 := by
        rcases Int.lt_trichotomy t 0 with z | z | z
        · omega
        · exact z
        · exfalso
          have h5 : 1 * (tp (p + 1) : Int) ≤ t * (tp (p + 1) : Int) := Int.mul_le_mul_of_nonneg_right (by omega) (by omega)
          omega
      rw [ht0, Int.zero_mul, Int.add_zero] at hsum
      have hDm : vl u (p + 1 + 1) % vl w (p + 1) = vl D (p + 1) := by omega
      rw [l_i, lI_and16, ht0, show ((0 : Int) % 65536) = ((0 : Nat) : Int) from rfl, l_i, hq]
      refine k _ (fun i hi => ?_) (fun j hj => ?_)
      · by_cases hin : i = p + 1
        · subst hin
          rw [upd_s, dg_ge (Nat.lt_trans hml hVt)]
        · rw [upd_n (by omega), (h1 i (by omega)).1, hDm, dg_vl (fun z hz => (h1 z hz).2) (by omega)]
      · rw [upd_n (by omega), h2 _ (by omega)]
  -- the guess
  have mid : ∀ next bel : Nat, next < 65536 → bel < 65536 → (∀ g, g * (w p * 65536 + next) ≤ (u (p + 1) * 65536 + u p) * 65536 + bel → g ≤ 65536 → g ≤ q + 1) → q ≤ ((u (p + 1) * 65536 + u p) * 65536 + bel) / (w p * 65536 + next) → wj_X7_oneDigit_84 post pi (nI f) (nI (p + 1)) 94500 (lI ((u (p + 1) * 65536 + u p : Nat) : Int)) (lI (w p : Nat)) (lI (next : Nat)) (lI (bel : Nat)) := by
    intro next bel hnx hbl hhi hlo
    have hne : ¬ lI (w p : Nat) = 0 := fun z => by
      rw [show (0 : Int64) = lI 0 from rfl, lI_eq (by omega) (by omega)] at z
      omega
    have hdivI : lI ((u (p + 1) * 65536 + u p : Nat) : Int) / lI (w p : Nat) = lI (((u (p + 1) * 65536 + u p) / w p : Nat) : Int) := by
      rw [← lN_lI, ← lN_lI, ← lN_lI]
      exact pk_lDiv (by omega) (by omega) (by omega)
    refine ⟨hne, fun x12 e12 => ⟨hne, fun x14 e14 => ?_⟩⟩
    have hremI : lI ((u (p + 1) * 65536 + u p : Nat) : Int) - lI ((u (p + 1) * 65536 + u p : Nat) : Int) / lI (w p : Nat) * lI (w p : Nat) = lI (((u (p + 1) * 65536 + u p) % w p : Nat) : Int) := by
      rw [← lN_lI, ← lN_lI, ← lN_lI]
      exact pk_lRem (by omega) (by omega) (by omega)
    rw [hdivI] at e12
    rw [hremI] at e14
    subst e12
    subst e14
    -- the leading digit is not above the divisor's
    have hule : u (p + 1) ≤ w p := by
      rcases Nat.lt_or_ge (w p) (u (p + 1)) with z | z
      · exfalso
        have h5 : (w p + 1) * tp (p + 1) ≤ u (p + 1) * tp (p + 1) := Nat.mul_le_mul_right _ z
        rw [vl_succ u (p + 1), vl_succ w p] at hU
        rw [Nat.add_mul, Nat.one_mul] at h5
        have h6 : vl w p < tp p := vl_lt (fun i hi => (hw i (by omega)).2)
        rw [tp_succ] at h5 hU
        have h7 : w p * (tp p * 65536) = 65536 * (w p * tp p) := by rw [Nat.mul_left_comm, Nat.mul_comm, ← Nat.mul_assoc, Nat.mul_comm (w p)]
        have h8 : 65536 * (vl w p + w p * tp p) = 65536 * vl w p + 65536 * (w p * tp p) := Nat.mul_add ..
        omega
      · exact z
    have hdm2 := Nat.div_add_mod (u (p + 1) * 65536 + u p) (w p)
    have hml2 := Nat.mod_lt (u (p + 1) * 65536 + u p) (show 0 < w p by omega)
    have hg0 : (u (p + 1) * 65536 + u p) / w p ≤ 65537 := by
      have : (u (p + 1) * 65536 + u p) / w p < 65538 := (Nat.div_lt_iff_lt_mul (by omega)).mpr (by omega)
      omega
    have hq0 : q ≤ (u (p + 1) * 65536 + u p) / w p := by
      refine Nat.le_trans hlo ?_
      refine Nat.le_trans (Nat.div_le_div_left (show w p * 65536 ≤ w p * 65536 + next by omega) (by omega)) ?_
      rw [Nat.mul_comm (w p), ← Nat.div_div_eq_div_mul, show ((u (p + 1) * 65536 + u p) * 65536 + bel) / 65536 = u (p + 1) * 65536 + u p by omega]
      exact Nat.le_refl _
    refine ⟨3, sl_oneDigit_100 (q := q) hlead wp2 hnx hbl rfl rfl hq2 hlo ?_ 2 _ _ (by omega) (by omega) (by rw [Nat.mul_comm]; exact hdm2) hq0 hg0 (by omega)⟩
    intro g h1 h2 h3
    exact fin g h1 h2 (hhi g h3 h2)
  -- the entry
  rw [wp_X7_oneDigit]
  rw [nI_add, show nI (f + (p + 1)) - 1 = nI (f + p) from nI_pred (f + p), nI_clamp (by omega), nI_clamp (by omega), un1, up1, i_l _ (by omega), i_l _ (by omega), lI_shl16, lI_add]
  refine ⟨vp_in_nI (by omega) (by decide), vp_in_nI (by omega) (by decide), fun x4 e4 => ?_⟩
  rw [show ((u (p + 1) : Int) * 65536 + (u p : Int)) = ((u (p + 1) * 65536 + u p : Nat) : Int) by omega] at e4
  subst e4
  rw [show (94500 : Int32) + nI (p + 1) - 1 = nI (94500 + p) by rw [show (94500 : Int32) + nI (p + 1) = nI (94500 + p + 1) from nI_add 94500 (p + 1), nI_pred], nI_clamp (by omega), wp1, i_l _ (by omega)]
  refine ⟨vp_in_nI (by omega) (by decide), fun x6 e6 => ?_⟩
  subst e6
  obtain rfl | ⟨p, rfl⟩ : p = 0 ∨ ∃ z, p = z + 1 := by
    rcases Nat.eq_zero_or_pos p with z | z
    · exact Or.inl z
    · exact Or.inr ⟨p - 1, by omega⟩
  · refine ⟨fun _ => ⟨fun _ => ?_, fun hc => absurd (show nI 1 ≤ 1 by decide) hc⟩, fun hc => absurd (show nI 1 ≤ 1 by decide) hc⟩
    have e1 : vl u (0 + 1 + 1) = u 1 * 65536 + u 0 := by simp [vl, tp]; omega
    have e2 : vl w (0 + 1) = w 0 := by simp [vl, tp]
    rw [e1, e2] at hq
    have e3 : ((u 1 * 65536 + u 0) * 65536 + 0) / (w 0 * 65536 + 0) = (u 1 * 65536 + u 0) / w 0 := by
      rw [Nat.add_zero, Nat.add_zero, Nat.mul_div_mul_right _ _ (by decide)]
    refine mid 0 0 (by decide) (by decide) (fun g h1 _ => ?_) (by rw [e3, hq]; exact Nat.le_refl _)
    have h2 : g ≤ (u 1 * 65536 + u 0) / w 0 := by
      rw [← e3]
      exact (Nat.le_div_iff_mul_le (by omega)).mpr h1
    omega
  · have hgt : ¬ nI (p + 1 + 1) ≤ 1 := fun z => by
      have := (nI_leI (a := p + 1 + 1) (b := 1) (by omega) (by decide)).mp z
      omega
    obtain ⟨uq1, uq2⟩ := hu p (by omega)
    obtain ⟨wq1, wq2⟩ := hw p (by omega)
    refine ⟨fun hc => absurd hc hgt, fun _ => ?_⟩
    rw [show (94500 : Int32) + nI (p + 1 + 1) - 2 = nI (94500 + p) by rw [show (94500 : Int32) + nI (p + 1 + 1) = nI (94500 + p + 2) from nI_add 94500 (p + 1 + 1)]; exact pk_sub (b := 2) (by omega), nI_clamp (by omega), wq1, i_l _ (by omega)]
    refine ⟨vp_in_nI (by omega) (by decide), fun hc => absurd hc hgt, fun _ => ?_⟩
    rw [nI_add, show nI (f + (p + 1 + 1)) - 2 = nI (f + p) from pk_sub (a := f + (p + 1 + 1)) (b := 2) (by omega), nI_clamp (by omega), uq1, i_l _ (by omega)]
    refine ⟨vp_in_nI (by omega) (by decide), ?_⟩
    have t1 : tp (p + 1) = tp p * 65536 := tp_succ p
    have t2 : tp (p + 1 + 1) = tp p * 65536 * 65536 := by rw [tp_succ, t1]
    have eU : vl u (p + 1 + 1 + 1) = vl u p + tp p * ((u (p + 1 + 1) * 65536 + u (p + 1)) * 65536 + u p) := by
      rw [vl_succ, vl_succ, vl_succ, t1, t2]
      generalize u (p + 1 + 1) = ua
      generalize u (p + 1) = ub
      generalize tp p = T
      simp only [Nat.add_mul, Nat.mul_add, Nat.mul_assoc, Nat.mul_comm, Nat.mul_left_comm]
      omega
    have eV : vl w (p + 1 + 1) = vl w p + tp p * (w (p + 1) * 65536 + w p) := by
      rw [vl_succ, vl_succ, t1]
      generalize w (p + 1) = wa
      generalize tp p = T
      simp only [Nat.add_mul, Nat.mul_add, Nat.mul_assoc, Nat.mul_comm, Nat.mul_left_comm]
      omega
    have dU : vl u (p + 1 + 1 + 1) / tp p = (u (p + 1 + 1) * 65536 + u (p + 1)) * 65536 + u p := by
      rw [eU]
      exact vl_div u p (fun i hi => (hu i (by omega)).2) _
    have dV : vl w (p + 1 + 1) / tp p = w (p + 1) * 65536 + w p := by
      rw [eV]
      exact vl_div w p (fun i hi => (hw i (by omega)).2) _
    refine mid (w p) (u p) wq2 uq2 (fun g h1 h2 => ?_) ?_
    · rw [hq]
      rw [← dU, ← dV] at h1
      exact est_hi (tp_pos p) hV0 h1 (by rw [dV]; omega)
    · rw [hq, ← dU, ← dV]
      exact est_lo (tp_pos p) (by rw [dV]; omega)
