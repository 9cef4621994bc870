/-! ===== the class's whole numbers on the abstract heap: layer 2 (own work) ===== -/
def Ext (h h' : xH) : Prop := ∀ (b : Nat) (e : xE), h b = some e → h' b = some e
theorem Ext.rf (h : xH) : Ext h h := fun _ _ z => z
theorem Ext.tr {a b c : xH} (h1 : Ext a b) (h2 : Ext b c) : Ext a c := fun q e z => h2 q e (h1 q e z)
theorem fresh_none {h : xH} {q : Nat} (hf : x_fresh h q) : h q = none := by
  rcases he : h q with _ | e
  · rfl
  · exact absurd (hf q e he) (Nat.lt_irrefl q)
theorem Ext.none {a b : xH} (h : Ext a b) {q : Nat} (hq : b q = Option.none) : a q = Option.none := by
  rcases he : a q with _ | e
  · rfl
  · rw [h q e he] at hq
    cases hq
theorem Ext.up {a b : xH} (h : Ext a b) {q : Nat} {e : xE} (hq : a q = Option.none) : Ext a (x_up b q e) := by
  intro p e' z
  by_cases hp : p = q
  · rw [hp, hq] at z
    cases z
  · rw [x_up_n hp]
    exact h p e' z
theorem Ext.but {a b c : xH} (h : Ext a b) {q : Nat} (hq : a q = Option.none) (hc : ∀ p, p ≠ q → c p = b p) : Ext a c := by
  intro p e' z
  by_cases hp : p = q
  · rw [hp, hq] at z
    cases z
  · rw [hc p hp]
    exact h p e' z
theorem Ext.new {h : xH} {q : Nat} {e : xE} (hf : x_fresh h q) : Ext h (x_up h q e) := (Ext.rf h).up (fresh_none hf)
/-- a row of digits -/
def Dg (h : xH) (d n w : Nat) : Prop := ∃ f : Nat → Int32, h d = some (.inl (0, n, .inl f)) ∧ ∀ i, i < n → f i = nI (dg w i)
/-- a whole number -/
def Wh (G : Nat → Prop) (h : xH) (a : Nat) (z : Int) : Prop := ∃ d n : Nat, h a = some (.inr (5, [.int (iI z.sign), .ref d, .int (nI (ln z.natAbs))])) ∧ Dg h d n z.natAbs ∧ ln z.natAbs ≤ n ∧ n ≤ 20000 ∧ G d
section
variable {G : Nat → Prop}
theorem Dg.ext {h h' : xH} {d n w : Nat} (x : Dg h d n w) (he : Ext h h') : Dg h' d n w := by
  obtain ⟨f, h1, h2⟩ := x
  exact ⟨f, he _ _ h1, h2⟩
theorem Wh.ext {h h' : xH} {a : Nat} {z : Int} (x : Wh G h a z) (he : Ext h h') : Wh G h' a z := by
  obtain ⟨d, n, h1, h2, h3⟩ := x
  exact ⟨d, n, he _ _ h1, h2.ext he, h3⟩
theorem Wh.ln {h : xH} {a : Nat} {z : Int} (x : Wh G h a z) : ln z.natAbs ≤ 20000 := by
  obtain ⟨d, n, h1, h2, h3, h4, -⟩ := x
  omega
theorem sw_digit {h : xH} {a i : Nat} {z : Int} {post : Int32 → Prop} (x : Wh G h a z) (hi : i < 1000000) (k : post (nI (dg z.natAbs i))) : wp_X5_digit h a (nI i) post := by
  obtain ⟨d, n, h1, ⟨f, h2, h3⟩, h4, h5, -⟩ := x
  refine ⟨fun hc => absurd hc (nI_pos (by omega)), fun _ => ⟨_, h1, _, rfl, fun hc => ?_, fun hc => ⟨_, rfl, _, _, h2, ?_⟩⟩⟩
  · rw [nI_leI (by omega) (by omega)] at hc
    rw [dg_ge_ln hc] at k
    exact k
  · rw [nI_leI (by omega) (by omega)] at hc
    refine ⟨vp_in_nI (by omega) (by omega), ?_⟩
    rw [nI_clamp (by omega), h3 i (by omega)]
    exact k
theorem sw_init_7 {post : xH → Prop} {K : xH → Nat → Int32 → Nat → Int32 → Prop} {h : xH} {x0 d n w : Nat} {x1 : Int32} (hd : Dg h d n w) (hn : n ≤ 20000) (k : K h x0 x1 d (nI (ln w))) :
    ∀ j, ln w ≤ j → j ≤ n → wl_X5_init_7 post K (j + 1) h x0 x1 d (nI j) := by
  obtain ⟨f, h2, h3⟩ := hd
  intro j
  induction j with
  | zero =>
    intro a1 a2
    rw [wl_X5_init_7]
    refine ⟨fun _ => ?_, fun hc => absurd (show nI 0 ≤ 0 by decide) hc⟩
    have : ln w = 0 := by omega
    rw [this] at k
    exact k
  | succ j ih =>
    intro a1 a2
    rw [wl_X5_init_7]
    refine ⟨fun hc => absurd hc (nI_nle (by omega) (by omega)), fun _ => ⟨_, _, h2, ?_⟩⟩
    rw [nI_pred, nI_clamp (by omega), h3 j (by omega)]
    have l1 := dg_lt w j
    refine ⟨vp_in_nI (by omega) (by omega), fun hc => ?_, fun hc x hx => ?_⟩
    · have : ln w = j + 1 := by
        rcases Nat.lt_or_ge j (ln w) with q | q
        · omega
        · exact absurd (by rw [dg_ge_ln q]; rfl) hc
      rw [this] at k
      exact k
    · subst hx
      rw [pk_m1]
      refine ih ?_ (by omega)
      rcases Nat.lt_or_ge j (ln w) with q | q
      · have e : ln w = j + 1 := by omega
        exact absurd ((nI_eq (by omega) (by omega)).mp (hc.trans nI_0.symm)) (dg_top e)
      · exact q
theorem sw_init {h : xH} {a d n w : Nat} {s : Int32} {post : xH → Prop} (ha : h a = some (.inr (5, [.int 0, .null, .int 0]))) (hd : Dg h d n w) (hn : n ≤ 20000) (hw : ln w ≤ n)
    (k : ∀ h', (∀ b, b ≠ a → h' b = h b) → h' a = some (.inr (5, [.int (if w = 0 then 0 else s), .ref d, .int (nI (ln w))])) → post h') : wp_X5_init h a s d post := by
  have hd' := hd
  obtain ⟨f, h2, h3⟩ := hd'
  refine ⟨n, f, h2, fun x3 e3 => ?_⟩
  subst e3
  have fin : ∀ t : Int32, t = (if w = 0 then 0 else s) → wj_X5_init_35 post h a d (nI (ln w)) a t := by
    intro t et
    refine ⟨_, ha, by decide, fun h1 e1 => ⟨[.int t, .null, .int 0], by rw [e1]; exact x_up_s, Nat.le_of_ble_eq_true rfl, fun h2 e2 => ⟨Nat.le_of_ble_eq_true rfl, fun h3 e3 => k h3 (fun b hb => ?_) ?_⟩⟩⟩
    · rw [e3, x_up_n hb, e2, x_up_n hb, e1, x_up_n hb]
    · rw [e3, x_up_s, et]
      rfl
  refine ⟨n + 1, sw_init_7 hd hn ⟨fun hc => fin _ ?_, fun hc => fin _ ?_⟩ n hw (Nat.le_refl n)⟩
  · rw [if_neg (fun z => hc (by rw [z]; rfl))]
  · rw [if_pos (ln_eq_0 ((nI_eq (a := ln w) (b := 0) (by omega) (by decide)).mp hc))]
/-- a new whole number out of a row of digits and a sign -/
theorem sw_make {h0 h : xH} {a d n w : Nat} {s : Int} {post : xH → Prop} (he : Ext h0 h) (hna : h0 a = none) (ha : h a = some (.inr (5, [.int 0, .null, .int 0]))) (hd : Dg h d n w) (hn : n ≤ 20000) (hw : ln w ≤ n) (hg : G d) (hs : w ≠ 0 → s = 1 ∨ s = -1)
    (k : ∀ h', Ext h0 h' → Wh G h' a (s * w) → post h') : wp_X5_init h a (iI s) d post := by
  refine sw_init ha hd hn hw ?_
  intro h' h1 h2
  have hda : d ≠ a := by
    obtain ⟨f, g1, -⟩ := hd
    intro z
    rw [z, ha] at g1
    cases g1
  refine k h' (he.but hna h1) ⟨d, n, ?_, ?_, ?_, hn, hg⟩
  · rw [h2]
    by_cases hw0 : w = 0
    · subst hw0
      rw [if_pos rfl]
      simp
      rfl
    · rw [if_neg hw0]
      have hp : (0 : Int) < w := by omega
      rcases hs hw0 with z | z
      · subst z
        rw [Int.one_mul, Int.sign_eq_one_of_pos hp, Int.natAbs_natCast]
      · subst z
        rw [Int.sign_mul, Int.sign_eq_one_of_pos hp, Int.natAbs_mul, Int.natAbs_natCast]
        simp
  · obtain ⟨f, g1, g2⟩ := hd
    refine ⟨f, by rw [h1 d hda]; exact g1, fun i hi => ?_⟩
    rw [g2 i hi]
    by_cases hw0 : w = 0
    · subst hw0; simp
    · rcases hs hw0 with z | z <;> subst z <;> simp [Int.natAbs_mul]
  · by_cases hw0 : w = 0
    · subst hw0; simp [ln_0]
    · rcases hs hw0 with z | z <;> subst z <;> simp [Int.natAbs_mul] <;> exact hw
theorem sw_sizeAgainst_14 {h : xH} {a b : Nat} {x y : Int} {post : Int32 → Prop} {K31 : Nat → Nat → Int32 → Prop} {K56 : Prop} (ha : Wh G h a x) (hb : Wh G h b y) (k56 : x.natAbs = y.natAbs → K56)
    (k31 : ∀ i, i < 20000 → x.natAbs / tp (i + 1) = y.natAbs / tp (i + 1) → dg x.natAbs i ≠ dg y.natAbs i → K31 a b (nI i)) :
    ∀ j, j ≤ 20000 → x.natAbs / tp j = y.natAbs / tp j → wl_X5_sizeAgainst_14 h post K31 K56 (j + 1) a b (nI j - 1) := by
  have ha' := ha
  have hb' := hb
  obtain ⟨d1, n1, a1, -⟩ := ha'
  obtain ⟨d2, n2, b1, -⟩ := hb'
  intro j
  induction j with
  | zero =>
    intro hj hd
    rw [wl_X5_sizeAgainst_14]
    refine ⟨fun _ => k56 ?_, fun hc => absurd n0_lt hc⟩
    rw [tp_0, Nat.div_one, Nat.div_one] at hd
    exact hd
  | succ j ih =>
    intro hj hd
    rw [wl_X5_sizeAgainst_14, nI_pred]
    refine ⟨fun hc => absurd hc (nI_pos (by omega)), fun _ => ⟨_, a1, sw_digit ha (by omega) ⟨_, b1, sw_digit hb (by omega) ?_⟩⟩⟩
    have l1 := dg_lt x.natAbs j
    have l2 := dg_lt y.natAbs j
    refine ⟨fun hc x2 hx => ?_, fun hc => k31 j (by omega) hd (fun z => hc (by rw [z]))⟩
    rw [nI_eq (by omega) (by omega)] at hc
    rw [hx, n_m1]
    refine ih (by omega) ?_
    rw [div_tp x.natAbs, div_tp y.natAbs, hd, hc]
theorem sw_sizeAgainst {h : xH} {a b : Nat} {x y : Int} {post : Int32 → Prop} (ha : Wh G h a x) (hb : Wh G h b y) (k1 : x.natAbs < y.natAbs → post (-1)) (k2 : x.natAbs = y.natAbs → post 0) (k3 : y.natAbs < x.natAbs → post 1) : wp_X5_sizeAgainst h a b post := by
  have ha' := ha
  have hb' := hb
  obtain ⟨d1, n1, a1, -, -, -⟩ := ha'
  obtain ⟨d2, n2, b1, -, -, -⟩ := hb'
  have la := ha.ln
  have lb := hb.ln
  refine ⟨_, a1, _, rfl, _, b1, _, rfl, fun x2 e2 => ?_⟩
  obtain ⟨m, hm1, hm2, hm3⟩ : ∃ m, (if nI (ln x.natAbs) < nI (ln y.natAbs) then nI (ln y.natAbs) else nI (ln x.natAbs)) = nI m ∧ (ln x.natAbs ≤ m ∧ ln y.natAbs ≤ m) ∧ m ≤ 20000 := by
    by_cases hc : nI (ln x.natAbs) < nI (ln y.natAbs)
    · rw [if_pos hc]
      rw [nI_ltI (by omega) (by omega)] at hc
      exact ⟨_, rfl, by omega, lb⟩
    · rw [if_neg hc]
      rw [nI_ltI (by omega) (by omega)] at hc
      exact ⟨_, rfl, by omega, la⟩
  rw [hm1] at e2
  subst e2
  refine ⟨m + 1, sw_sizeAgainst_14 ha hb k2 ?_ m hm3 ?_⟩
  · intro i hi hd hne
    refine ⟨_, a1, sw_digit ha (by omega) ⟨_, b1, sw_digit hb (by omega) ?_⟩⟩
    have l1 := dg_lt x.natAbs i
    have l2 := dg_lt y.natAbs i
    rw [nI_leI (by omega) (by omega)]
    exact ⟨fun hle => k3 (lt_of_dg hd.symm (by omega)), fun hle => k1 (lt_of_dg hd (by omega))⟩
  · rw [Nat.div_eq_of_lt (ln_le.mp hm2.1), Nat.div_eq_of_lt (ln_le.mp hm2.2)]
theorem sw_sum_21 {post : Nat → xH → Prop} {K : xH → Nat → Nat → Nat → Prop} {h0 : xH} {a b q n kc ks : Nat} {x y : Int} (ha : Wh G h0 a x) (hb : Wh G h0 b y) (hq : h0 q = none) (hn : n ≤ 20001)
    (k : ∀ h, Ext h0 h → Dg h q n (x.natAbs + y.natAbs) → K h kc ks q) :
    ∀ (m i : Nat) (h : xH) (f : Nat → Int32), i + m = n → Ext h0 h → h q = some (.inl (0, n, .inl f)) → (∀ j, j < i → f j = nI (dg (x.natAbs + y.natAbs) j)) → wl_X5_sumOfDigits_21 post K (m + 1) h kc ks a b q (nI ((x.natAbs % tp i + y.natAbs % tp i) / tp i)) (nI i) := by
  intro m
  induction m with
  | zero =>
    intro i h f him he hf hd
    rw [wl_X5_sumOfDigits_21]
    obtain rfl : i = n := by omega
    exact ⟨_, _, hf, fun _ => k h he ⟨f, hf, hd⟩, fun hc => absurd (nI_le (Nat.le_refl _) (by omega)) hc⟩
  | succ m ih =>
    intro i h f him he hf hd
    rw [wl_X5_sumOfDigits_21]
    have hA := ha.ext he
    have hB := hb.ext he
    have hA' := hA
    have hB' := hB
    obtain ⟨d1, n1, a1, -⟩ := hA'
    obtain ⟨d2, n2, b1, -⟩ := hB'
    refine ⟨_, _, hf, fun hc => absurd hc (nI_ge (by omega) (by omega)), fun _ => ⟨_, a1, sw_digit hA (by omega) ⟨_, b1, sw_digit hB (by omega) ?_⟩⟩⟩
    intro x5 e5
    have l1 := dg_lt x.natAbs i
    have l2 := dg_lt y.natAbs i
    obtain ⟨c1, c2⟩ := add_carry x.natAbs y.natAbs i
    have l3 : (x.natAbs % tp i + y.natAbs % tp i) / tp i < 2 := (Nat.div_lt_iff_lt_mul (tp_pos i)).mpr (by have := Nat.mod_lt x.natAbs (tp_pos i); have := Nat.mod_lt y.natAbs (tp_pos i); omega)
    rw [nI_add, nI_add] at e5
    subst e5
    refine ⟨vp_in_nI (by omega) (by omega), fun h1 e1 x3 e3 x4 e4 => ?_⟩
    rw [pk_shrN (by omega) _ 16 (by decide), show (2 : Nat) ^ 16 = 65536 from rfl, ← c2] at e3
    rw [nI_1] at e4
    subst e3
    subst e4
    rw [nI_clamp (by omega), pk_andN (by omega) 16 (by decide), show (2 : Nat) ^ 16 = 65536 from rfl, ← c1] at e1
    subst e1
    refine ih (i + 1) _ _ (by omega) (he.up hq) x_up_s (fun j hj => ?_)
    by_cases hji : j = i
    · subst hji
      rw [upd_s]
    · rw [upd_n hji]
      exact hd j (by omega)
theorem sw_sumOfDigits {h0 : xH} {a b mc ms N : Nat} {x y : Int} {post : Nat → xH → Prop} (ha : Wh G h0 a x) (hb : Wh G h0 b y) (hmc : 1 ≤ mc) (hN : ln x.natAbs ≤ N ∧ ln y.natAbs ≤ N) (hN2 : N ≤ 19999) (hms : N + 1 ≤ ms)
    (k : ∀ q h n, Ext h0 h → h0 q = none → Dg h q n (x.natAbs + y.natAbs) → ln (x.natAbs + y.natAbs) ≤ n → n ≤ N + 1 → post q h) : wp_X5_sumOfDigits h0 mc ms a b post := by
  have ha' := ha
  have hb' := hb
  obtain ⟨d1, n1, a1, -⟩ := ha'
  obtain ⟨d2, n2, b1, -⟩ := hb'
  obtain ⟨m, hm1, hm2, hm3⟩ : ∃ m, (if nI (ln x.natAbs) < nI (ln y.natAbs) then nI (ln y.natAbs) else nI (ln x.natAbs)) = nI m ∧ (ln x.natAbs ≤ m ∧ ln y.natAbs ≤ m) ∧ m ≤ N := by
    by_cases hc : nI (ln x.natAbs) < nI (ln y.natAbs)
    · rw [if_pos hc]
      rw [nI_ltI (by omega) (by omega)] at hc
      exact ⟨_, rfl, by omega, by omega⟩
    · rw [if_neg hc]
      rw [nI_ltI (by omega) (by omega)] at hc
      exact ⟨_, rfl, by omega, by omega⟩
  refine ⟨_, a1, _, rfl, _, b1, _, rfl, ?_⟩
  rw [hm1, nI_1, nI_clamp (by omega)]
  refine ⟨nI_pos (by omega), fun z ez => ?_⟩
  subst ez
  refine ⟨by omega, hmc, by omega, fun q hq h1 e1 => ?_⟩
  subst e1
  have hqn := fresh_none hq
  have e0 : (0 : Int32) = nI ((x.natAbs % tp 0 + y.natAbs % tp 0) / tp 0) := by
    rw [tp_0, Nat.mod_one, Nat.mod_one]; rfl
  have key := sw_sum_21 (post := post) (K := fun h kc ks x2 => post x2 h) (kc := mc - 1) (ks := ms - (m + 1)) ha hb hqn (n := m + 1) (by omega) (fun h he hd => k q h (m + 1) he hqn hd (ln_add_le hm2.1 hm2.2) (by omega)) (m + 1) 0 (x_up h0 q (.inl (0, m + 1, .inl (fun _ => 0)))) (fun _ => 0) (by omega) (Ext.new hq) x_up_s (fun j hj => by omega)
  rw [← e0] at key
  exact ⟨m + 1 + 1, key⟩
theorem sw_diff_12 {post : Nat → xH → Prop} {K : xH → Nat → Nat → Nat → Prop} {h0 : xH} {a b q n kc ks : Nat} {x y : Int} (ha : Wh G h0 a x) (hb : Wh G h0 b y) (hq : h0 q = none) (hn : n = ln x.natAbs) (hxy : y.natAbs ≤ x.natAbs)
    (k : ∀ h, Ext h0 h → Dg h q n (x.natAbs - y.natAbs) → K h kc ks q) :
    ∀ (m i : Nat) (h : xH) (f : Nat → Int32), i + m = n → Ext h0 h → h q = some (.inl (0, n, .inl f)) → (∀ j, j < i → f j = nI (dg (x.natAbs - y.natAbs) j)) → wl_X5_differenceOfDigits_12 post K (m + 1) h kc ks a b q (iI (-(bo x.natAbs y.natAbs i : Int))) (nI i) := by
  have la := ha.ln
  intro m
  induction m with
  | zero =>
    intro i h f him he hf hd
    rw [wl_X5_differenceOfDigits_12]
    have hA := ha.ext he
    obtain ⟨d1, n1, a1, -⟩ := hA
    obtain rfl : i = n := by omega
    rw [← hn] at a1
    exact ⟨_, a1, _, rfl, fun _ => k h he ⟨f, hf, hd⟩, fun hc => absurd (nI_le (Nat.le_refl _) (by omega)) hc⟩
  | succ m ih =>
    intro i h f him he hf hd
    rw [wl_X5_differenceOfDigits_12]
    have hA := ha.ext he
    have hB := hb.ext he
    have hA' := hA
    have hB' := hB
    obtain ⟨d1, n1, a1, -⟩ := hA'
    obtain ⟨d2, n2, b1, -⟩ := hB'
    rw [← hn] at a1
    refine ⟨_, a1, _, rfl, fun hc => absurd hc (nI_ge (by omega) (by omega)), fun _ => sw_digit hA (by omega) ⟨_, b1, sw_digit hB (by omega) ?_⟩⟩
    intro x5 e5
    have l1 := dg_lt x.natAbs i
    have l2 := dg_lt y.natAbs i
    obtain ⟨c1, c2⟩ := sub_borrow hxy i
    have l3 : bo x.natAbs y.natAbs i < 2 := by unfold bo; split <;> omega
    have l4 : bo x.natAbs y.natAbs (i + 1) < 2 := by unfold bo; split <;> omega
    rw [nI_iI, nI_iI, iI_sub, iI_add, show ((dg x.natAbs i : Int) - dg y.natAbs i + -(bo x.natAbs y.natAbs i : Int)) = (dg x.natAbs i : Int) - dg y.natAbs i - bo x.natAbs y.natAbs i by omega] at e5
    obtain ⟨t, ht⟩ : ∃ t : Int, t = (dg x.natAbs i : Int) - dg y.natAbs i - bo x.natAbs y.natAbs i := ⟨_, rfl⟩
    rw [← ht] at e5 c1 c2
    subst e5
    refine ⟨_, _, hf, vp_in_nI (by omega) (by omega), fun h1 e1 x3 e3 x4 e4 => ?_⟩
    rw [iI_shr16 (by omega) (by omega), show t / 65536 = -(bo x.natAbs y.natAbs (i + 1) : Int) by rw [c2]; split <;> omega] at e3
    rw [nI_1] at e4
    subst e3
    subst e4
    rw [nI_clamp (by omega), iI_and16, ← c1] at e1
    subst e1
    refine ih (i + 1) _ _ (by omega) (he.up hq) x_up_s (fun j hj => ?_)
    by_cases hji : j = i
    · subst hji
      rw [upd_s]
    · rw [upd_n hji]
      exact hd j (by omega)
theorem sw_differenceOfDigits {h0 : xH} {a b mc ms : Nat} {x y : Int} {post : Nat → xH → Prop} (ha : Wh G h0 a x) (hb : Wh G h0 b y) (hxy : y.natAbs ≤ x.natAbs) (hmc : 1 ≤ mc) (hms : ln x.natAbs ≤ ms)
    (k : ∀ q h n, Ext h0 h → h0 q = none → Dg h q n (x.natAbs - y.natAbs) → ln (x.natAbs - y.natAbs) ≤ n → n ≤ ln x.natAbs → post q h) : wp_X5_differenceOfDigits h0 mc ms a b post := by
  have ha' := ha
  obtain ⟨d1, n1, a1, -⟩ := ha'
  have la := ha.ln
  refine ⟨_, a1, _, rfl, nI_pos (by omega), fun z ez => ?_⟩
  rw [nI_clamp (by omega)] at ez
  subst ez
  refine ⟨by omega, hmc, hms, fun q hq h1 e1 => ?_⟩
  subst e1
  have hqn := fresh_none hq
  have key := sw_diff_12 (post := post) (K := fun h kc ks x2 => post x2 h) (kc := mc - 1) (ks := ms - ln x.natAbs) ha hb hqn rfl hxy (fun h he hd => k q h _ he hqn hd (ln_mono (Nat.sub_le _ _)) (Nat.le_refl _)) (ln x.natAbs) 0 (x_up h0 q (.inl (0, ln x.natAbs, .inl (fun _ => 0)))) (fun _ => 0) (by omega) (Ext.new hq) x_up_s (fun j hj => by omega)
  rw [bo_0] at key
  exact ⟨ln x.natAbs + 1, key⟩
end
