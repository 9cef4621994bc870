/-! ===== the class's Rest: the steps of a division (own work) ===== -/
section
/-- what of two sides a digit row and its carry can be -/
theorem uniq {X q M R : Int} (hX0 : 0 ≤ X) (hX : X < M) (e : X + q * M = R) (h1 : -M < R) (h2 : R < M) : (0 ≤ R → q = 0 ∧ X = R) ∧ (R < 0 → q = -1 ∧ X = R + M) := by
  have hq1 : q < 1 := by
    rcases Int.lt_or_le q 1 with h | h
    · exact h
    · have := Int.mul_le_mul_of_nonneg_right h (show 0 ≤ M by omega)
      omega
  have hq2 : -2 < q := by
    rcases Int.lt_or_le (-2) q with h | h
    · exact h
    · have := Int.mul_le_mul_of_nonneg_right h (show 0 ≤ M by omega)
      omega
  rcases (show q = 0 ∨ q = -1 by omega) with h | h
  · subst h
    omega
  · subst h
    omega
theorem vl_bound {E : Nat → Nat} {N m : Nat} (hm : m ≤ N) (h1 : ∀ j, j < N → E j < 65536) (h2 : ∀ j, m ≤ j → j < N → E j = 0) : vl E N < tp m := by
  rw [vl_zero hm h2]
  exact vl_lt (fun i hi => h1 i (by omega))
theorem sr_carry {h : xH} {r d N L t : Nat} {c : Int} {f : Nat → Int32} {E : Nat → Nat} {post : Int64 → xH → Prop} (hr : h r = some (.inr (3, [.ref d, .int (nI L)]))) (hf : h d = some (.inl (0, N, .inl f))) (hE : ∀ j, j < N → f j = nI (E j) ∧ E j < 65536) (hL : L ≤ N) (hN : N ≤ 20000) (ht : t ≤ L) (hc1 : -70000 ≤ c) (hc2 : c ≤ 70000)
    (k1 : t < L → ∀ h', h' = x_up h d (.inl (0, N, .inl (upd f t (nI (((E t : Int) + c) % 65536).toNat)))) → post (lI (((E t : Int) + c) / 65536)) h') (k2 : t = L → post (lI c) h) : wp_X3_carryInto h r (nI t) (lI c) post := by
  refine ⟨_, hr, _, rfl, fun hc => ⟨_, rfl, _, _, hf, ?_⟩, fun hc => ?_⟩
  · rw [nI_ltI (by omega) (by omega)] at hc
    refine ⟨vp_in_nI (by omega) (by omega), fun x4 e4 => ⟨vp_in_nI (by omega) (by omega), fun h' e' => ?_⟩⟩
    obtain ⟨w1, w2⟩ := hE t (by omega)
    rw [nI_clamp (by omega), w1, i_l _ (by omega), lI_add] at e4
    rw [e4, nI_clamp (by omega), lI_and16, lI_i, show (((E t : Int) + c) % 65536) = ((((E t : Int) + c) % 65536).toNat : Int) by omega, ← nI_iI] at e'
    rw [e4, lI_shr16 (by omega) (by omega)]
    exact k1 hc h' e'
  · rw [nI_ltI (by omega) (by omega)] at hc
    exact k2 (by omega)
theorem sub_step {vE' vE Ep T r b b' g M M' y t S J U : Int} (e1 : vE' + Ep * T = vE + r * T) (et : t = Ep - g * y + -b) (ed : t = r - 65536 * b') (e4 : vE - b * T = U - g * M * S) (e5 : T = S * J) (e6 : M' = M + y * J) : vE' - b' * (T * 65536) = U - g * M' * S := by
  subst e6
  have h1 : vE' = vE + r * T - Ep * T := by omega
  have h2 : r = t + 65536 * b' := by omega
  subst h1
  subst h2
  subst et
  have h3 : vE = U - g * M * S + b * T := by omega
  subst h3
  subst e5
  simp only [Int.add_mul, Int.mul_add, Int.sub_mul, Int.mul_sub, Int.neg_mul, Int.mul_neg, Int.mul_assoc, Int.mul_comm, Int.mul_left_comm]
  omega
theorem sr_tt_10 {post : Int32 → xH → Prop} {K : xH → Nat → Nat → Int32 → Int64 → Prop} {h0 : xH} {x0 x1 d d2 N N2 L p g U v : Nat} (hr0 : h0 x0 = some (.inr (3, [.ref d, .int (nI L)]))) (hr1 : h0 x1 = some (.inr (3, [.ref d2, .int (nI (ln v))]))) (hv : Dg h0 d2 N2 v) (hn2 : ln v ≤ N2) (hN2 : N2 ≤ 20000) (hN : N ≤ 20000) (hdd : d2 ≠ d) (h0d : x0 ≠ d) (h1d : x1 ≠ d) (hp : p + ln v ≤ N) (hg : g ≤ 65536)
    (k : ∀ (h : xH) (f : Nat → Int32) (E : Nat → Nat) (b : Nat), (∀ c, c ≠ d → h c = h0 c) → h d = some (.inl (0, N, .inl f)) → (∀ j, j < N → f j = nI (E j) ∧ E j < 65536) → (∀ j, p + ln v ≤ j → E j = dg U j) → b ≤ 65536 → ((vl E N : Nat) : Int) - (b : Int) * tp (p + ln v) = U - (g : Int) * ((v % tp (ln v) : Nat) : Int) * tp p → K h x0 x1 (nI p) (lI (-(b : Int)))) :
    ∀ (m j : Nat) (h : xH) (f : Nat → Int32) (E : Nat → Nat) (b : Nat), j + m = ln v → (∀ c, c ≠ d → h c = h0 c) → h d = some (.inl (0, N, .inl f)) → (∀ i, i < N → f i = nI (E i) ∧ E i < 65536) → (∀ i, p + j ≤ i → E i = dg U i) → b ≤ 65536 → ((vl E N : Nat) : Int) - (b : Int) * tp (p + j) = U - (g : Int) * ((v % tp j : Nat) : Int) * tp p → wl_X3_takesTooMuch_10 post K (m + 1) h x0 x1 (nI p) (lI (g : Nat)) (lI (-(b : Int))) (nI j) := by
  intro m
  induction m with
  | zero =>
    intro j h f E b hjm hh hf h1 h2 hb h3
    rw [wl_X3_takesTooMuch_10]
    obtain rfl : j = ln v := by omega
    exact ⟨_, (hh x1 h1d).trans hr1, _, rfl, fun _ => k h f E b hh hf h1 h2 hb h3, fun hc => absurd (nI_le (Nat.le_refl _) (by omega)) hc⟩
  | succ m ih =>
    intro j h f E b hjm hh hf h1 h2 hb h3
    rw [wl_X3_takesTooMuch_10]
    obtain ⟨fv, v1, v2⟩ := hv
    rw [nI_add, nI_clamp (by omega), nI_clamp (by omega)]
    refine ⟨_, (hh x1 h1d).trans hr1, _, rfl, fun hc => absurd hc (nI_ge (by omega) (by omega)), fun _ => ⟨_, (hh x0 h0d).trans hr0, _, rfl, _, _, hf, vp_in_nI (by omega) (by omega), _, rfl, _, _, (hh d2 hdd).trans v1, vp_in_nI (by omega) (by omega), fun x9 e9 => ⟨vp_in_nI (by omega) (by omega), fun h' e' x6 e6 x8 e8 => ?_⟩⟩⟩
    obtain ⟨w1, w2⟩ := h1 (p + j) (by omega)
    have l2 := dg_lt v j
    have hgv : g * dg v j ≤ 65536 * 65535 := Nat.mul_le_mul hg (by omega)
    rw [v2 j (by omega), w1, i_l _ (by omega), i_l _ (by omega), lI_mul, lI_sub, lI_add] at e9
    obtain ⟨t, ht⟩ : ∃ t : Int, t = (E (p + j) : Int) - (g : Int) * (dg v j : Int) + -(b : Int) := ⟨_, rfl⟩
    have hgv2 : (g : Int) * (dg v j : Int) ≤ 65536 * 65535 := by
      have : ((g * dg v j : Nat) : Int) = (g : Int) * (dg v j : Int) := Int.natCast_mul _ _
      omega
    have hgv3 : 0 ≤ (g : Int) * (dg v j : Int) := by
      have : ((g * dg v j : Nat) : Int) = (g : Int) * (dg v j : Int) := Int.natCast_mul _ _
      omega
    rw [← ht] at e9
    subst e9
    rw [lI_shr16 (by omega) (by omega)] at e6
    rw [nI_1] at e8
    subst e6
    subst e8
    rw [lI_and16, lI_i, show (t % 65536) = ((t % 65536).toNat : Int) by omega, ← nI_iI] at e'
    have up := vl_up (d := E) (k := p + j) (n := N) (v := (t % 65536).toNat) (by omega)
    have key : ((vl (va_up E (p + j) (t % 65536).toNat) N : Nat) : Int) - ((-(t / 65536)).toNat : Int) * tp (p + (j + 1)) = U - (g : Int) * ((v % tp (j + 1) : Nat) : Int) * tp p := by
      rw [← Nat.add_assoc, tp_succ, Int.natCast_mul (tp (p + j)) 65536]
      refine sub_step (b := b) (t := t) (r := ((t % 65536).toNat : Int)) (Ep := (E (p + j) : Int)) (y := (dg v j : Int)) (J := (tp j : Int)) (M := ((v % tp j : Nat) : Int)) (vE := ((vl E N : Nat) : Int)) ?_ ht (by omega) h3 ?_ ?_
      · rw [← Int.natCast_mul, ← Int.natCast_mul]
        omega
      · rw [tp_add, Int.natCast_mul]
      · rw [mod_tp_succ, Int.natCast_add, Int.natCast_mul]
    rw [show t / 65536 = -((-(t / 65536)).toNat : Int) by omega]
    refine ih (j + 1) h' _ (va_up E (p + j) (t % 65536).toNat) (-(t / 65536)).toNat (by omega) (fun c hc => by rw [e', x_up_n hc]; exact hh c hc) (by rw [e']; exact x_up_s) (fun a ha => ?_) (fun a ha => ?_) (by omega) key
    · by_cases haj : a = p + j
      · subst haj
        rw [upd_s, va_up_self]
        exact ⟨rfl, by omega⟩
      · rw [upd_n haj, va_up_ne _ _ haj]
        exact h1 a ha
    · rw [va_up_ne _ _ (by omega)]
      exact h2 a (by omega)
theorem natb (s : Int32) (h : s = 0 ∨ s = 1) : narrow .boolean (.int s) = .int s := by
  rcases h with h | h <;> subst h <;> rfl
theorem sr_takes {h0 : xH} {x0 x1 d d2 N N2 L p g U v : Nat} {post : Int32 → xH → Prop} (hr0 : h0 x0 = some (.inr (3, [.ref d, .int (nI L)]))) (hr1 : h0 x1 = some (.inr (3, [.ref d2, .int (nI (ln v))]))) (hd : Dg h0 d N U) (hv : Dg h0 d2 N2 v) (hn2 : ln v ≤ N2) (hN2 : N2 ≤ 20000) (hL : L ≤ N) (hN : N ≤ 20000) (hdd : d2 ≠ d) (hp : p + ln v ≤ L) (hU : U < tp L) (hU2 : U < tp (p + ln v + 1)) (hg : g ≤ 65536)
    (hA : g * v * tp p < U + tp (p + ln v)) (hB : U < g * v * tp p + tp (p + ln v))
    (kA : g * v * tp p ≤ U → ∀ h', (∀ c, c ≠ d → h' c = h0 c) → Dg h' d N (U - g * v * tp p) → post 0 h')
    (kB : U < g * v * tp p → ∀ h', (∀ c, c ≠ d → h' c = h0 c) → Dg h' d N (U + tp (min (p + ln v + 1) L) - g * v * tp p) → post 1 h') : wp_X3_takesTooMuch h0 x0 x1 (nI p) (nI g) post := by
  obtain ⟨f0, d1, d3⟩ := hd
  have h0d : x0 ≠ d := fun z => by rw [z, d1] at hr0; cases hr0
  have h1d : x1 ≠ d := fun z => by rw [z, d1] at hr1; cases hr1
  have hmod : v % tp (ln v) = v := mod_small (lt_ln v)
  have hgU : ((g * v * tp p : Nat) : Int) = (g : Int) * v * tp p := by rw [Int.natCast_mul, Int.natCast_mul]
  intro x4 e4
  rw [i_l _ (by omega)] at e4
  subst e4
  refine ⟨ln v + 1, sr_tt_10 (U := U) hr0 hr1 hv hn2 hN2 hN hdd h0d h1d (by omega) hg ?_ (ln v) 0 h0 f0 (dg U) 0 (by omega) (fun _ _ => rfl) d1 (fun i hi => ⟨d3 i hi, dg_lt U i⟩) (fun _ _ => rfl) (by omega) ?_⟩
  · intro h f E b hh hf hE hE2 hb eq
    rw [hmod, ← hgU] at eq
    refine ⟨_, (hh x1 h1d).trans hr1, _, rfl, _, (hh x0 h0d).trans hr0, ?_⟩
    rw [nI_add]
    have fin : ∀ (E' : Nat → Nat) (f' : Nat → Int32) (h' : xH) (q : Int), (∀ c, c ≠ d → h' c = h0 c) → h' d = some (.inl (0, N, .inl f')) → (∀ j, j < N → f' j = nI (E' j) ∧ E' j < 65536) → (∀ j, min (p + ln v + 1) L ≤ j → j < N → E' j = 0) → ((vl E' N : Nat) : Int) + q * tp (min (p + ln v + 1) L) = U - ((g * v * tp p : Nat) : Int) → (0 ≤ lI q → wj_X3_takesTooMuch_97 post h' 0) ∧ (¬ 0 ≤ lI q → wj_X3_takesTooMuch_97 post h' 1) := by
      intro E' f' h' q hh' hf' hE' hz eq'
      have hM : p + ln v ≤ min (p + ln v + 1) L := by omega
      have hM2 := tp_mono hM
      have b1 := vl_bound (E := E') (N := N) (m := min (p + ln v + 1) L) (by omega) (fun j hj => (hE' j hj).2) hz
      obtain ⟨u1, u2⟩ := uniq (X := ((vl E' N : Nat) : Int)) (q := q) (M := (tp (min (p + ln v + 1) L) : Int)) (R := U - ((g * v * tp p : Nat) : Int)) (by omega) (by omega) eq' (by omega) (by omega)
      have hDg := Dg.of hf' hE'
      have z0 : (0 : Int64) = lI 0 := rfl
      rcases Nat.lt_or_ge U (g * v * tp p) with hc | hc
      · obtain ⟨q1, q2⟩ := u2 (by omega)
        subst q1
        refine ⟨fun hx => absurd hx (by decide), fun _ => ⟨natb _ (Or.inr rfl), kB hc h' hh' ?_⟩⟩
        rw [show U + tp (min (p + ln v + 1) L) - g * v * tp p = vl E' N by omega]
        exact hDg
      · obtain ⟨q1, q2⟩ := u1 (by omega)
        subst q1
        refine ⟨fun _ => ⟨natb _ (Or.inl rfl), kA hc h' hh' ?_⟩, fun hx => absurd (by decide) hx⟩
        rw [show U - g * v * tp p = vl E' N by omega]
        exact hDg
    refine sr_carry (t := p + ln v) (c := -(b : Int)) ((hh x0 h0d).trans hr0) hf hE hL hN hp (by omega) (by omega) (fun ht h' e' => ?_) (fun ht => ?_)
    · obtain ⟨s, hs⟩ : ∃ s : Int, s = (E (p + ln v) : Int) + -(b : Int) := ⟨_, rfl⟩
      rw [← hs] at e' ⊢
      refine fin (va_up E (p + ln v) (s % 65536).toNat) _ h' (s / 65536) (fun c hc => by rw [e', x_up_n hc]; exact hh c hc) (by rw [e']; exact x_up_s) (fun a ha => ?_) (fun a ha ha2 => ?_) ?_
      · by_cases haj : a = p + ln v
        · subst haj
          rw [upd_s, va_up_self]
          exact ⟨rfl, by omega⟩
        · rw [upd_n haj, va_up_ne _ _ haj]
          exact hE a ha
      · rw [va_up_ne _ _ (by omega), hE2 a (by omega)]
        exact dg_ge (Nat.lt_of_lt_of_le hU2 (tp_mono (by omega)))
      · have up := vl_up (d := E) (k := p + ln v) (n := N) (v := (s % 65536).toNat) (by omega)
        rw [show min (p + ln v + 1) L = p + ln v + 1 by omega, tp_succ, Int.natCast_mul (tp (p + ln v)) 65536]
        have up' : ((vl (va_up E (p + ln v) (s % 65536).toNat) N : Nat) : Int) + (E (p + ln v) : Int) * tp (p + ln v) = vl E N + ((s % 65536).toNat : Int) * tp (p + ln v) := by
          rw [← Int.natCast_mul, ← Int.natCast_mul]
          omega
        have hs2 : ((s % 65536).toNat : Int) = (E (p + ln v) : Int) + -(b : Int) - 65536 * (s / 65536) := by omega
        rw [hs2] at up'
        generalize s / 65536 = q at *
        generalize ((tp (p + ln v) : Nat) : Int) = T at *
        have e1 : ((E (p + ln v) : Int) + -(b : Int) - 65536 * q) * T = (E (p + ln v) : Int) * T - (b : Int) * T - q * (T * 65536) := by
          simp only [Int.add_mul, Int.sub_mul, Int.neg_mul, Int.mul_add, Int.mul_sub, Int.mul_neg, Int.mul_assoc, Int.mul_comm, Int.mul_left_comm]
          omega
        rw [e1] at up'
        show _ + q * (T * 65536) = _
        omega
    · refine fin E f h (-(b : Int)) hh hf hE (fun j hj _ => ?_) ?_
      · rw [hE2 j (by omega)]
        exact dg_ge (Nat.lt_of_lt_of_le hU (tp_mono (by omega)))
      · rw [show min (p + ln v + 1) L = p + ln v by omega, Int.neg_mul]
        omega
  · rw [vl_dg, mod_small (Nat.lt_of_lt_of_le hU (tp_mono hL)), tp_0, Nat.mod_one]
    simp
theorem sr_gb_5 {post : xH → Prop} {K : xH → Nat → Nat → Int32 → Int32 → Prop} {h0 : xH} {x0 x1 d d2 N N2 L p X v : Nat} (hr0 : h0 x0 = some (.inr (3, [.ref d, .int (nI L)]))) (hr1 : h0 x1 = some (.inr (3, [.ref d2, .int (nI (ln v))]))) (hv : Dg h0 d2 N2 v) (hn2 : ln v ≤ N2) (hN2 : N2 ≤ 20000) (hN : N ≤ 20000) (hdd : d2 ≠ d) (h0d : x0 ≠ d) (h1d : x1 ≠ d) (hp : p + ln v ≤ N)
    (k : ∀ h f E c, (∀ a, a ≠ d → h a = h0 a) → h d = some (.inl (0, N, .inl f)) → (∀ j, j < N → f j = nI (E j) ∧ E j < 65536) → (∀ j, p + ln v ≤ j → E j = dg X j) → c ≤ 1 → vl E N + c * tp (p + ln v) = X + (v % tp (ln v)) * tp p → K h x0 x1 (nI p) (nI c)) :
    ∀ m j h f E c, j + m = ln v → (∀ a, a ≠ d → h a = h0 a) → h d = some (.inl (0, N, .inl f)) → (∀ i, i < N → f i = nI (E i) ∧ E i < 65536) → (∀ i, p + j ≤ i → E i = dg X i) → c ≤ 1 → vl E N + c * tp (p + j) = X + (v % tp j) * tp p → wl_X3_giveBack_5 post K (m + 1) h x0 x1 (nI p) (nI c) (nI j) := by
  intro m
  induction m with
  | zero =>
    intro j h f E c hjm hh hf h1 h2 hb h3
    rw [wl_X3_giveBack_5]
    obtain rfl : j = ln v := by omega
    exact ⟨_, (hh x1 h1d).trans hr1, _, rfl, fun _ => k h f E c hh hf h1 h2 hb h3, fun hc => absurd (nI_le (Nat.le_refl _) (by omega)) hc⟩
  | succ m ih =>
    intro j h f E c hjm hh hf h1 h2 hb h3
    rw [wl_X3_giveBack_5]
    obtain ⟨fv, v1, v2⟩ := hv
    rw [nI_add, nI_clamp (by omega), nI_clamp (by omega)]
    refine ⟨_, (hh x1 h1d).trans hr1, _, rfl, fun hc => absurd hc (nI_ge (by omega) (by omega)), fun _ => ⟨_, (hh x0 h0d).trans hr0, _, rfl, _, _, hf, vp_in_nI (by omega) (by omega), _, rfl, _, _, (hh d2 hdd).trans v1, vp_in_nI (by omega) (by omega), fun x5 e5 => ⟨vp_in_nI (by omega) (by omega), fun h' e' x3 e3 x4 e4 => ?_⟩⟩⟩
    obtain ⟨w1, w2⟩ := h1 (p + j) (by omega)
    have l2 := dg_lt v j
    rw [v2 j (by omega), w1, nI_add, nI_add] at e5
    obtain ⟨t, ht⟩ : ∃ t : Nat, t = E (p + j) + dg v j + c := ⟨_, rfl⟩
    rw [← ht] at e5
    subst e5
    rw [pk_shrN (by omega) _ 16 (by decide), show (2 : Nat) ^ 16 = 65536 from rfl] at e3
    rw [nI_1] at e4
    subst e3
    subst e4
    rw [pk_andN (by omega) 16 (by decide), show (2 : Nat) ^ 16 = 65536 from rfl] at e'
    have up := vl_up (d := E) (k := p + j) (n := N) (v := t % 65536) (by omega)
    refine ih (j + 1) h' _ (va_up E (p + j) (t % 65536)) (t / 65536) (by omega) (fun a ha => by rw [e', x_up_n ha]; exact hh a ha) (by rw [e']; exact x_up_s) (fun a ha => ?_) (fun a ha => ?_) (by omega) ?_
    · by_cases haj : a = p + j
      · subst haj
        rw [upd_s, va_up_self]
        exact ⟨rfl, by omega⟩
      · rw [upd_n haj, va_up_ne _ _ haj]
        exact h1 a ha
    · rw [va_up_ne _ _ (by omega)]
      exact h2 a (by omega)
    · rw [← Nat.add_assoc, tp_succ, mod_tp_succ]
      have e1 : t % 65536 * tp (p + j) + t / 65536 * (tp (p + j) * 65536) = t * tp (p + j) := by
        rw [show t / 65536 * (tp (p + j) * 65536) = 65536 * (t / 65536) * tp (p + j) by ac_rfl, ← Nat.add_mul, Nat.mod_add_div]
      have e2 : t * tp (p + j) = E (p + j) * tp (p + j) + dg v j * tp (p + j) + c * tp (p + j) := by rw [ht, Nat.add_mul, Nat.add_mul]
      have e3 : dg v j * tp j * tp p = dg v j * tp (p + j) := by rw [tp_add]; ac_rfl
      rw [Nat.add_mul, e3]
      omega
theorem sr_giveBack {h0 : xH} {x0 x1 d d2 N N2 L p X Y v : Nat} {post : xH → Prop} (hr0 : h0 x0 = some (.inr (3, [.ref d, .int (nI L)]))) (hr1 : h0 x1 = some (.inr (3, [.ref d2, .int (nI (ln v))]))) (hd : Dg h0 d N X) (hv : Dg h0 d2 N2 v) (hn2 : ln v ≤ N2) (hN2 : N2 ≤ 20000) (hL : L ≤ N) (hN : N ≤ 20000) (hdd : d2 ≠ d) (hp : p + ln v ≤ L)
    (hX : X < tp (min (p + ln v + 1) L)) (hY : Y < tp (p + ln v)) (hXY : X + v * tp p = Y + tp (min (p + ln v + 1) L))
    (k : ∀ h', (∀ c, c ≠ d → h' c = h0 c) → Dg h' d N Y → post h') : wp_X3_giveBack h0 x0 x1 (nI p) post := by
  obtain ⟨f0, d1, d3⟩ := hd
  have h0d : x0 ≠ d := fun z => by rw [z, d1] at hr0; cases hr0
  have h1d : x1 ≠ d := fun z => by rw [z, d1] at hr1; cases hr1
  have hmod : v % tp (ln v) = v := mod_small (lt_ln v)
  refine ⟨ln v + 1, sr_gb_5 (X := X) hr0 hr1 hv hn2 hN2 hN hdd h0d h1d (by omega) ?_ (ln v) 0 h0 f0 (dg X) 0 (by omega) (fun _ _ => rfl) d1 (fun i hi => ⟨d3 i hi, dg_lt X i⟩) (fun _ _ => rfl) (by omega) ?_⟩
  · intro h f E c hh hf hE hE2 hc eq
    rw [hmod] at eq
    refine ⟨_, (hh x1 h1d).trans hr1, _, rfl, _, (hh x0 h0d).trans hr0, ?_⟩
    rw [nI_add, i_l _ (by omega)]
    have hM : p + ln v ≤ min (p + ln v + 1) L := by omega
    have hM2 := tp_mono hM
    have fin : ∀ (E' : Nat → Nat) (f' : Nat → Int32) (h' : xH) (q : Nat), (∀ c, c ≠ d → h' c = h0 c) → h' d = some (.inl (0, N, .inl f')) → (∀ j, j < N → f' j = nI (E' j) ∧ E' j < 65536) → (∀ j, min (p + ln v + 1) L ≤ j → j < N → E' j = 0) → q ≤ 1 → vl E' N + q * tp (min (p + ln v + 1) L) = X + v * tp p → post h' := by
      intro E' f' h' q hh' hf' hE' hz hq eq'
      have b1 := vl_bound (E := E') (N := N) (m := min (p + ln v + 1) L) (by omega) (fun j hj => (hE' j hj).2) hz
      have hDg := Dg.of hf' hE'
      have : vl E' N = Y := by
        rcases (show q = 0 ∨ q = 1 by omega) with z | z <;> subst z <;> omega
      rw [this] at hDg
      exact k h' hh' hDg
    refine sr_carry (t := p + ln v) (c := (c : Int)) ((hh x0 h0d).trans hr0) hf hE hL hN hp (by omega) (by omega) (fun ht h' e' => ?_) (fun ht => ?_)
    · obtain ⟨s, hs⟩ : ∃ s : Nat, s = E (p + ln v) + c := ⟨_, rfl⟩
      have w2 := (hE (p + ln v) (by omega)).2
      rw [show (((E (p + ln v) : Int) + (c : Int)) % 65536).toNat = s % 65536 by omega] at e'
      have up := vl_up (d := E) (k := p + ln v) (n := N) (v := s % 65536) (by omega)
      refine fin (va_up E (p + ln v) (s % 65536)) _ h' (s / 65536) (fun c hc => by rw [e', x_up_n hc]; exact hh c hc) (by rw [e']; exact x_up_s) (fun a ha => ?_) (fun a ha ha2 => ?_) (by omega) ?_
      · by_cases haj : a = p + ln v
        · subst haj
          rw [upd_s, va_up_self]
          exact ⟨rfl, by omega⟩
        · rw [upd_n haj, va_up_ne _ _ haj]
          exact hE a ha
      · rw [va_up_ne _ _ (by omega), hE2 a (by omega)]
        exact dg_ge (Nat.lt_of_lt_of_le hX (tp_mono (by omega)))
      · rw [show min (p + ln v + 1) L = p + ln v + 1 by omega, tp_succ]
        have e1 : s % 65536 * tp (p + ln v) + s / 65536 * (tp (p + ln v) * 65536) = s * tp (p + ln v) := by
          rw [show s / 65536 * (tp (p + ln v) * 65536) = 65536 * (s / 65536) * tp (p + ln v) by ac_rfl, ← Nat.add_mul, Nat.mod_add_div]
        have e2 : s * tp (p + ln v) = E (p + ln v) * tp (p + ln v) + c * tp (p + ln v) := by rw [hs, Nat.add_mul]
        omega
    · refine fin E f h c hh hf hE (fun j hj _ => ?_) hc ?_
      · rw [hE2 j (by omega)]
        exact dg_ge (Nat.lt_of_lt_of_le hX (tp_mono (by omega)))
      · rw [show min (p + ln v + 1) L = p + ln v by omega]
        exact eq
  · rw [vl_dg, mod_small (Nat.lt_of_lt_of_le hX (tp_mono (by omega))), tp_0, Nat.mod_one]
    simp
end
