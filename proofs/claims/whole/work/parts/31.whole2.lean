/-! ===== the class's whole numbers: negative, plus, times (own work) ===== -/
section
variable {G : Nat → Prop}
theorem sgn3 (x : Int) : (x.sign = -1 ∧ x < 0) ∨ (x.sign = 0 ∧ x = 0) ∨ (x.sign = 1 ∧ 0 < x) := by
  rcases Int.lt_trichotomy x 0 with h | h | h
  · exact Or.inl ⟨Int.sign_eq_neg_one_of_neg h, h⟩
  · subst h; exact Or.inr (Or.inl ⟨rfl, rfl⟩)
  · exact Or.inr (Or.inr ⟨Int.sign_eq_one_of_pos h, h⟩)
theorem sgn_eq {x y : Int} : iI x.sign = iI y.sign ↔ x.sign = y.sign := by
  refine iI_eq ?_ ?_
  · rcases sgn3 x with h | h | h <;> omega
  · rcases sgn3 y with h | h | h <;> omega
theorem sgn_lt {x : Int} : iI x.sign < 0 ↔ x < 0 := by
  have : (0 : Int32) = iI 0 := rfl
  rw [this, iI_lt (by rcases sgn3 x with h | h | h <;> omega) (by omega)]
  rcases sgn3 x with h | h | h <;> omega
theorem Wh.to {h : xH} {a : Nat} {x y : Int} (hx : Wh G h a x) (e : x = y) : Wh G h a y := by
  subst e
  exact hx
theorem sw_negative {h0 : xH} {a mc ms : Nat} {x : Int} {post : Nat → xH → Prop} (ha : Wh G h0 a x) (hmc : 1 ≤ mc) (hms : 3 ≤ ms)
    (k : ∀ r h', Ext h0 h' → Wh G h' r (-x) → post r h') : wp_X5_negative h0 mc ms a post := by
  refine ⟨hmc, hms, fun q hq h1 e1 => ?_⟩
  have he : Ext h0 h1 := by rw [e1]; exact Ext.new hq
  have hqn := fresh_none hq
  obtain ⟨d, n, a1, a2, a3, a4, a5⟩ := ha.ext he
  refine ⟨_, a1, _, rfl, _, rfl, ?_⟩
  rw [iI_neg]
  refine sw_make (n := n) (w := x.natAbs) he hqn (by rw [e1]; exact x_up_s) a2 a4 a3 a5 (fun hw => ?_) (fun h' e' w' => k q h' e' (w'.to ?_))
  · rcases sgn3 x with h | h | h <;> omega
  · rcases sgn3 x with h | h | h <;> rw [h.1] <;> omega
theorem sw_plus {h0 : xH} {a b mc ms N : Nat} {x y : Int} {post : Nat → xH → Prop} (ha : Wh G h0 a x) (hb : Wh G h0 b y) (hG : ∀ q, h0 q = none → G q) (hN : ln x.natAbs ≤ N ∧ ln y.natAbs ≤ N) (hN2 : N ≤ 19999) (hmc : 2 ≤ mc) (hms : N + 4 ≤ ms)
    (k : ∀ r h', Ext h0 h' → Wh G h' r (x + y) → post r h') : wp_X5_plus h0 mc ms a b post := by
  have ha' := ha
  have hb' := hb
  obtain ⟨d1, n1, a1, -⟩ := ha'
  obtain ⟨d2, n2, b1, -⟩ := hb'
  refine ⟨_, a1, _, rfl, fun h1 => ⟨_, b1, _, rfl, fun h2 => ⟨fun h3 => ?_, fun h3 => ?_⟩, fun h2 => ?_⟩, fun h1 => ?_⟩
  · rw [sign_iI] at h1 h2
    rw [sgn_eq] at h3
    have big : ∀ {u v : Int} {a b : Nat} {s : Int} {p' : Nat → xH → Prop}, Wh G h0 a u → Wh G h0 b v → v.natAbs ≤ u.natAbs → ln u.natAbs ≤ N → u ≠ 0 → u.sign * ((u.natAbs - v.natAbs : Nat) : Int) = x + y → (∀ q h', p' q h' = post q h') →
      1 ≤ mc ∧ 3 ≤ ms ∧ ∀ q_73 : Nat, x_fresh h0 q_73 → ∀ h_73 : xH, h_73 = x_up h0 q_73 (.inr (5, [.int 0, .null, .int 0])) → ∃ fs_78 : List Value, h_73 a = some (.inr (5, fs_78)) ∧ ∃ v_78 : Int32, fs_78[0]? = some (.int v_78) ∧ ∃ mc_83 ms_83 : Nat, mc_83 ≤ (mc - 1) ∧ ms_83 ≤ (ms - 3) ∧ wp_X5_differenceOfDigits h_73 mc_83 ms_83 a b (fun (r_83 : Nat) (h_83 : xH) => wp_X5_init h_83  q_73 v_78 r_83 (fun (h_86 : xH) => post q_73 h_86)) := by
      intro u v a b s p' hu hv hvu hlu hu0 he _
      refine ⟨by omega, by omega, fun q hq h1 e1 => ?_⟩
      have hx : Ext h0 h1 := by rw [e1]; exact Ext.new hq
      have hqn := fresh_none hq
      have hu1 := hu.ext hx
      have hu1' := hu1
      obtain ⟨d, n, g1, -⟩ := hu1'
      refine ⟨_, g1, _, rfl, mc - 1, ms - 3, Nat.le_refl _, Nat.le_refl _, sw_differenceOfDigits hu1 (hv.ext hx) hvu (by omega) (by omega) ?_⟩
      intro q2 h2 n2 x2 hn2 dg2 l2 l3
      refine sw_make (n := n2) (w := u.natAbs - v.natAbs) (hx.tr x2) hqn (x2 _ _ (by rw [e1]; exact x_up_s)) dg2 (by have := hu.ln; omega) l2 (hG _ (hx.none hn2)) (fun _ => ?_) (fun h' e' w' => k q h' e' (w'.to he))
      rcases sgn3 u with h | h | h <;> omega
    refine sw_sizeAgainst ha hb (fun lt => ⟨fun _ => ?_, fun hc => absurd (by decide) hc⟩) (fun eq => ⟨fun hc => absurd hc (by decide), fun _ => ?_⟩) (fun gt => ⟨fun hc => absurd hc (by decide), fun _ => ?_⟩)
    · refine big (s := 0) (p' := post) hb ha (by omega) hN.2 h2 ?_ (fun _ _ => rfl)
      rcases sgn3 x with h | h | h <;> rcases sgn3 y with g | g | g <;> rw [g.1] <;> omega
    · refine big (s := 0) (p' := post) ha hb (by omega) hN.1 h1 ?_ (fun _ _ => rfl)
      rcases sgn3 x with h | h | h <;> rcases sgn3 y with g | g | g <;> rw [h.1] <;> omega
    · refine big (s := 0) (p' := post) ha hb (by omega) hN.1 h1 ?_ (fun _ _ => rfl)
      rcases sgn3 x with h | h | h <;> rcases sgn3 y with g | g | g <;> rw [h.1] <;> omega
  · rw [sign_iI] at h1 h2
    rw [sgn_eq] at h3
    refine ⟨by omega, by omega, fun q hq h1' e1 => ?_⟩
    have hx : Ext h0 h1' := by rw [e1]; exact Ext.new hq
    have hqn := fresh_none hq
    have hu1 := ha.ext hx
    have hu1' := hu1
    obtain ⟨d, n, g1, -⟩ := hu1'
    refine ⟨_, g1, _, rfl, mc - 1, ms - 3, Nat.le_refl _, Nat.le_refl _, sw_sumOfDigits hu1 (hb.ext hx) (by omega) hN hN2 (by omega) ?_⟩
    intro q2 h2' n2 x2 hn2 dg2 l2 l3
    refine sw_make (n := n2) (w := x.natAbs + y.natAbs) (hx.tr x2) hqn (x2 _ _ (by rw [e1]; exact x_up_s)) dg2 (by omega) l2 (hG _ (hx.none hn2)) (fun _ => ?_) (fun h' e' w' => k q h' e' (w'.to ?_))
    · rcases sgn3 x with h | h | h <;> omega
    · rcases sgn3 x with h | h | h <;> rcases sgn3 y with g | g | g <;> rw [h.1] <;> omega
  · rw [sign_iI] at h2
    exact k _ _ (Ext.rf _) (ha.to (by omega))
  · rw [sign_iI] at h1
    exact k _ _ (Ext.rf _) (hb.to (by omega))
/-- a row of digits whose values are D -/
theorem Dg.of {h : xH} {q n : Nat} {f : Nat → Int32} {D : Nat → Nat} (hf : h q = some (.inl (0, n, .inl f))) (hD : ∀ j, j < n → f j = nI (D j) ∧ D j < 65536) : Dg h q n (vl D n) :=
  ⟨f, hf, fun i hi => by rw [(hD i hi).1, dg_vl (fun j hj => (hD j hj).2) hi]⟩
theorem sw_times_63 {post : Nat → xH → Prop} {K : xH → Nat → Nat → Nat → Nat → Nat → Int32 → Int64 → Prop} {h0 : xH} {x0 b q i n A V0 kc ks : Nat} {y : Int} {D0 : Nat → Nat} (hb : Wh G h0 b y) (hq : h0 q = none) (hn : n ≤ 20000) (hin : i + ln y.natAbs < n) (hA : A < 65536)
    (k : ∀ h f D c, Ext h0 h → h q = some (.inl (0, n, .inl f)) → (∀ j, j < n → f j = nI (D j) ∧ D j < 65536) → (∀ j, i + ln y.natAbs ≤ j → D j = D0 j) → c < 65536 → vl D n + c * tp (i + ln y.natAbs) = V0 + A * (y.natAbs % tp (ln y.natAbs)) * tp i → K h kc ks x0 b q (nI i) (lI (c : Nat))) :
    ∀ m j h f D c, j + m = ln y.natAbs → Ext h0 h → h q = some (.inl (0, n, .inl f)) → (∀ a, a < n → f a = nI (D a) ∧ D a < 65536) → (∀ a, i + j ≤ a → D a = D0 a) → c < 65536 → vl D n + c * tp (i + j) = V0 + A * (y.natAbs % tp j) * tp i → wl_X5_times_63 post K (m + 1) h kc ks x0 b q (nI i) (lI (A : Nat)) (lI (c : Nat)) (nI j) := by
  intro m
  induction m with
  | zero =>
    intro j h f D c hjm he hf h1 h2 hc h3
    rw [wl_X5_times_63]
    obtain ⟨d, nn, b1, -⟩ := hb.ext he
    obtain rfl : j = ln y.natAbs := by omega
    exact ⟨_, b1, _, rfl, fun _ => k h f D c he hf h1 h2 hc h3, fun hd => absurd (nI_le (Nat.le_refl _) (by omega)) hd⟩
  | succ m ih =>
    intro j h f D c hjm he hf h1 h2 hc h3
    rw [wl_X5_times_63]
    obtain ⟨d, nn, b1, ⟨g, b2, b3⟩, b4, b5, -⟩ := hb.ext he
    rw [nI_add, nI_clamp (by omega), nI_clamp (by omega)]
    refine ⟨_, b1, _, rfl, fun hd => absurd hd (nI_ge (by omega) (by omega)), fun _ => ⟨_, _, hf, vp_in_nI (by omega) (by omega), _, rfl, _, _, b2, vp_in_nI (by omega) (by omega), fun x9 e9 => ⟨vp_in_nI (by omega) (by omega), fun h' e' x6 e6 x8 e8 => ?_⟩⟩⟩
    obtain ⟨w1, w2⟩ := h1 (i + j) (by omega)
    have l2 := dg_lt y.natAbs j
    rw [b3 j (by omega), w1, i_l _ (by omega), i_l _ (by omega), lI_mul, lI_add, lI_add, ← Int.natCast_mul, ← Int.natCast_add, ← Int.natCast_add] at e9
    have hv : A * dg y.natAbs j ≤ 65535 * 65535 := Nat.mul_le_mul (by omega) (by omega)
    obtain ⟨vv, hvv⟩ : ∃ z, z = D (i + j) + A * dg y.natAbs j + c := ⟨_, rfl⟩
    rw [← hvv] at e9
    subst e9
    rw [lI_shr16n (by omega)] at e6
    rw [nI_1] at e8
    subst e6
    subst e8
    rw [lI_and16n] at e'
    have up := vl_up (d := D) (k := i + j) (n := n) (v := vv % 65536) (by omega)
    refine ih (j + 1) h' _ (va_up D (i + j) (vv % 65536)) (vv / 65536) (by omega) (by rw [e']; exact he.up hq) (by rw [e']; exact x_up_s) (fun a ha => ?_) (fun a ha => ?_) (by omega) ?_
    · by_cases haj : a = i + j
      · subst haj
        rw [upd_s, va_up_self]
        exact ⟨rfl, by omega⟩
      · rw [upd_n haj, va_up_ne _ _ haj]
        exact h1 a ha
    · rw [va_up_ne _ _ (by omega)]
      exact h2 a (by omega)
    · rw [← Nat.add_assoc, tp_succ]
      exact step_alg up (Nat.mod_add_div vv 65536).symm (show vv = A * dg y.natAbs j + D (i + j) + c by omega) h3 (tp_add i j) (mod_tp_succ y.natAbs j)
theorem sw_times_40 {post : Nat → xH → Prop} {K : xH → Nat → Nat → Nat → Nat → Nat → Prop} {h0 : xH} {a b q n kc ks : Nat} {x y : Int} (ha : Wh G h0 a x) (hb : Wh G h0 b y) (hq : h0 q = none) (hn : n = ln x.natAbs + ln y.natAbs) (hn2 : n ≤ 20000)
    (k : ∀ h, Ext h0 h → Dg h q n (x.natAbs * y.natAbs) → K h kc ks a b q) :
    ∀ m i h f D, i + m = ln x.natAbs → Ext h0 h → h q = some (.inl (0, n, .inl f)) → (∀ j, j < n → f j = nI (D j) ∧ D j < 65536) → vl D n = (x.natAbs % tp i) * y.natAbs → wl_X5_times_40 post K (m + 1) h kc ks a b q (nI i) := by
  intro m
  induction m with
  | zero =>
    intro i h f D him he hf h1 h3
    rw [wl_X5_times_40]
    obtain ⟨d, nn, a1, -⟩ := ha.ext he
    obtain rfl : i = ln x.natAbs := by omega
    refine ⟨_, a1, _, rfl, fun _ => k h he ?_, fun hd => absurd (nI_le (Nat.le_refl _) (by omega)) hd⟩
    rw [mod_small (lt_ln _)] at h3
    rw [← h3]
    exact Dg.of hf h1
  | succ m ih =>
    intro i h f D him he hf h1 h3
    rw [wl_X5_times_40]
    obtain ⟨d, nn, a1, ⟨g, a2, a3⟩, a4, a5, -⟩ := ha.ext he
    rw [nI_clamp (by omega)]
    refine ⟨_, a1, _, rfl, fun hd => absurd hd (nI_ge (by omega) (by omega)), fun _ => ⟨_, rfl, _, _, a2, vp_in_nI (by omega) (by omega), fun x4 e4 => ?_⟩⟩
    have l1 := dg_lt x.natAbs i
    rw [a3 i (by omega), i_l _ (by omega)] at e4
    subst e4
    have hD0 : ∀ j, i + ln y.natAbs ≤ j → j < n → D j = 0 := by
      intro j hj hjn
      rw [← dg_vl (fun q hq => (h1 q hq).2) hjn, h3]
      refine dg_ge (Nat.lt_of_lt_of_le ?_ (tp_mono hj))
      rw [tp_add]
      exact Nat.mul_lt_mul_of_lt_of_le (Nat.mod_lt _ (tp_pos i)) (Nat.le_of_lt (lt_ln _)) (Nat.lt_of_le_of_lt (Nat.zero_le _) (lt_ln _))
    have h0' : vl D n + 0 * tp (i + 0) = (x.natAbs % tp i) * y.natAbs + dg x.natAbs i * (y.natAbs % tp 0) * tp i := by
      rw [h3, tp_0, Nat.mod_one]
      omega
    refine ⟨ln y.natAbs + 1, sw_times_63 (A := dg x.natAbs i) (V0 := (x.natAbs % tp i) * y.natAbs) (D0 := D) hb hq (by omega) (by omega) l1 ?_ (ln y.natAbs) 0 h f D 0 (by omega) he hf h1 (fun _ _ => rfl) (by omega) h0'⟩
    intro h' f' D' c he' hf' g1 g2 g3 g4
    obtain ⟨d', nn', b1, -⟩ := hb.ext he'
    refine ⟨_, b1, _, rfl, ?_⟩
    rw [nI_add, nI_clamp (by omega)]
    refine ⟨_, _, hf', vp_in_nI (by omega) (by omega), fun h2 e2 x5 e5 => ?_⟩
    rw [nI_1] at e5
    subst e5
    rw [l_i] at e2
    have hc0 : D' (i + ln y.natAbs) = 0 := by rw [g2 _ (Nat.le_refl _)]; exact hD0 _ (Nat.le_refl _) (by omega)
    have up := vl_up (d := D') (k := i + ln y.natAbs) (n := n) (v := c) (by omega)
    rw [hc0] at up
    refine ih (i + 1) h2 _ (va_up D' (i + ln y.natAbs) c) (by omega) (by rw [e2]; exact he'.up hq) (by rw [e2]; exact x_up_s) (fun j hj => ?_) ?_
    · by_cases hji : j = i + ln y.natAbs
      · subst hji
        rw [upd_s, va_up_self]
        exact ⟨rfl, g3⟩
      · rw [upd_n hji, va_up_ne _ _ hji]
        exact g1 j hj
    · rw [mod_tp_succ, Nat.add_mul]
      rw [mod_small (lt_ln _)] at g4
      have : dg x.natAbs i * y.natAbs * tp i = dg x.natAbs i * tp i * y.natAbs := by rw [Nat.mul_assoc, Nat.mul_comm y.natAbs, Nat.mul_assoc]
      omega
theorem sw_zero {h0 h : xH} {mc ms : Nat} {post : Nat → xH → Prop} (he : Ext h0 h) (hG : ∀ q, h0 q = none → G q) (hmc : 2 ≤ mc) (hms : 3 ≤ ms) (k : ∀ r h', Ext h0 h' → Wh G h' r 0 → post r h') : wj_X5_times_14 post h mc ms := by
  refine ⟨by omega, hms, fun q hq h1 e1 => ⟨by decide, fun z ez => ?_⟩⟩
  have : z = 0 := by rw [← ez]; rfl
  subst this
  refine ⟨by decide, by omega, by omega, fun q2 hq2 h2 e2 => ?_⟩
  have x1 : Ext h h1 := by rw [e1]; exact Ext.new hq
  have x2 : Ext h1 h2 := by rw [e2]; exact Ext.new hq2
  have n1 := he.none (fresh_none hq)
  have n2 := (he.tr x1).none (fresh_none hq2)
  exact sw_make (n := 0) (w := 0) (s := 0) ((he.tr x1).tr x2) n1 (x2 _ _ (by rw [e1]; exact x_up_s)) ⟨_, by rw [e2]; exact x_up_s, fun i hi => absurd hi (Nat.not_lt_zero i)⟩ (by decide) (by decide) (hG _ n2) (fun h => absurd rfl h) (fun h' e' w' => k q h' e' (w'.to rfl))
theorem sw_times {h0 : xH} {a b mc ms : Nat} {x y : Int} {post : Nat → xH → Prop} (ha : Wh G h0 a x) (hb : Wh G h0 b y) (hG : ∀ q, h0 q = none → G q) (hN : ln x.natAbs + ln y.natAbs ≤ 20000) (hmc : 2 ≤ mc) (hms : ln x.natAbs + ln y.natAbs + 3 ≤ ms)
    (k : ∀ r h', Ext h0 h' → Wh G h' r (x * y) → post r h') : wp_X5_times h0 mc ms a b post := by
  have ha' := ha
  have hb' := hb
  obtain ⟨d1, n1, a1, -⟩ := ha'
  obtain ⟨d2, n2, b1, -⟩ := hb'
  refine ⟨_, a1, _, rfl, fun h1 => ?_, fun h1 => ⟨_, b1, _, rfl, fun h2 => ⟨_, rfl, _, rfl, ?_⟩, fun h2 => ?_⟩⟩
  · rw [sign_iI] at h1
    subst h1
    exact sw_zero (Ext.rf _) hG hmc (by omega) (fun r h' e w => k r h' e (w.to (Int.zero_mul y).symm))
  · rw [nI_add, nI_clamp (by omega)]
    refine ⟨nI_pos (by omega), fun z ez => ?_⟩
    subst ez
    refine ⟨by omega, by omega, by omega, fun q hq h' e' => ?_⟩
    have he : Ext h0 h' := by rw [e']; exact Ext.new hq
    have hqn := fresh_none hq
    refine ⟨ln x.natAbs + 1, sw_times_40 (n := ln x.natAbs + ln y.natAbs) ha hb hqn rfl hN ?_ (ln x.natAbs) 0 h' (fun _ => 0) (fun _ => 0) (by omega) he (by rw [e']; exact x_up_s) (fun j _ => ⟨rfl, by decide⟩) ?_⟩
    · intro h2 e2 d2
      refine ⟨by omega, by omega, fun q3 hq3 h3 e3 => ?_⟩
      have x3 : Ext h2 h3 := by rw [e3]; exact Ext.new hq3
      obtain ⟨d1', n1', a1', -⟩ := ha.ext (e2.tr x3)
      obtain ⟨d2', n2', b1', -⟩ := hb.ext (e2.tr x3)
      refine ⟨_, a1', _, rfl, _, b1', _, rfl, ?_⟩
      rw [iI_mul]
      refine sw_make (n := _) (w := x.natAbs * y.natAbs) (e2.tr x3) (e2.none (fresh_none hq3)) (by rw [e3]; exact x_up_s) (d2.ext x3) hN (ln_mul_le _ _) (hG _ hqn) (fun hw => ?_) (fun h' e' w' => k q3 h' e' (w'.to ?_))
      · rw [sign_iI] at h1
        have hy : y ≠ 0 := by intro z; subst z; exact hw (Nat.mul_zero _)
        rcases sgn3 x with h | h | h <;> rcases sgn3 y with g | g | g <;> rw [h.1, g.1] <;> first | omega | decide
      · rw [Int.natCast_mul, show x.sign * y.sign * ((x.natAbs : Int) * y.natAbs) = (x.sign * x.natAbs) * (y.sign * y.natAbs) by ac_rfl, Int.sign_mul_natAbs, Int.sign_mul_natAbs]
    · rw [tp_0, Nat.mod_one, Nat.zero_mul]
      exact vl_zero (Nat.zero_le _) (fun _ _ _ => rfl)
  · rw [sign_iI] at h2
    subst h2
    exact sw_zero (Ext.rf _) hG hmc (by omega) (fun r h' e w => k r h' e (w.to (Int.mul_zero x).symm))
end
