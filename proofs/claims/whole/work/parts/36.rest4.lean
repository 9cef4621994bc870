/-! ===== the class's dividedBy and commonDivisor (own work) ===== -/
section
variable {G : Nat → Prop}
theorem sr_init {h0 : xH} {x0 a mc ms : Nat} {z : Int} {post : xH → Prop} (ha : Wh G h0 a z) (hx : h0 x0 = some (.inr (3, [.null, .int 0]))) (hmc : 1 ≤ mc) (hms : ln z.natAbs ≤ ms)
    (k : ∀ q h', h0 q = none → (∀ c, c ≠ x0 → c ≠ q → h' c = h0 c) → Rs h' x0 q (ln z.natAbs) z.natAbs → post h') : wp_X3_init h0 mc ms x0 a post := by
  have hl := ha.ln
  obtain ⟨d, n, a1, ⟨f, a2, a3⟩, a4, a5, -⟩ := ha
  have hax : a ≠ x0 := fun w => by rw [w, hx] at a1; cases a1
  refine ⟨_, a1, 1, ln z.natAbs, hmc, hms, _, a1, _, rfl, _, rfl, 1, ln z.natAbs, Nat.le_refl _, Nat.le_refl _, n, f, a2, nI_pos (by omega), fun u eu => ?_⟩
  rw [nI_clamp (by omega)] at eu
  subst eu
  refine ⟨by omega, by omega, Nat.le_refl _, Nat.le_refl _, fun q hq g hg => ?_⟩
  have hqn := fresh_none hq
  have hxq : x0 ≠ q := fun w => by rw [w, hqn] at hx; cases hx
  have haq : a ≠ q := fun w => by rw [w, hqn] at a1; cases a1
  refine ⟨_, by rw [x_up_n hxq]; exact hx, Nat.le_of_ble_eq_true rfl, fun h2 e2 => ?_⟩
  have ea : h2 a = some (.inr (5, [.int (iI z.sign), .ref d, .int (nI (ln z.natAbs))])) := by rw [e2, x_up_n hax, x_up_n haq]; exact a1
  refine ⟨_, ea, _, ea, _, rfl, Nat.le_of_ble_eq_true rfl, fun h3 e3 => ?_⟩
  refine k q h3 hqn (fun c c1 c2 => by rw [e3, x_up_n c1, e2, x_up_n c1, x_up_n c2]) ⟨?_, ⟨g, ?_, fun i hi => ?_⟩, Nat.le_refl _, hl⟩
  · rw [e3, x_up_s]
    rfl
  · rw [e3, x_up_n (Ne.symm hxq), e2, x_up_n (Ne.symm hxq), x_up_s]
  · rw [hg i hi, a3 i (by omega)]
theorem Ext.only {h0 h h' : xH} (he : Ext h0 h) {p : Nat → Prop} (hp : ∀ c, p c → h0 c = Option.none) (hc : ∀ c, ¬ p c → h' c = h c) : Ext h0 h' := by
  intro c e z
  by_cases hpc : p c
  · rw [hp c hpc] at z
    cases z
  · rw [hc c hpc]
    exact he c e z
theorem sw_zero' {h0 h : xH} {mc ms : Nat} {post : Nat → xH → Prop} (he : Ext h0 h) (hG : ∀ q, h0 q = none → G q) (hmc : 2 ≤ mc) (hms : 3 ≤ ms) (k : ∀ r h', Ext h0 h' → Wh G h' r 0 → post r h') : wj_X5_dividedBy_18 post h mc ms := by
  refine ⟨by omega, hms, fun q hq h1 e1 => ⟨by decide, fun z ez => ?_⟩⟩
  have : z = 0 := by rw [← ez]; rfl
  subst this
  refine ⟨by decide, by omega, by omega, fun q2 hq2 h2 e2 => ?_⟩
  have x1 : Ext h h1 := by rw [e1]; exact Ext.new hq
  have x2 : Ext h1 h2 := by rw [e2]; exact Ext.new hq2
  have n1 := he.none (fresh_none hq)
  have n2 := (he.tr x1).none (fresh_none hq2)
  exact sw_make (n := 0) (w := 0) (s := 0) ((he.tr x1).tr x2) n1 (x2 _ _ (by rw [e1]; exact x_up_s)) ⟨_, by rw [e2]; exact x_up_s, fun i hi => absurd hi (Nat.not_lt_zero i)⟩ (by decide) (by decide) (hG _ n2) (fun h => absurd rfl h) (fun h' e' w' => k q h' e' (w'.to rfl))
theorem tdiv_eq (x y : Int) : x.tdiv y = x.sign * y.sign * ((x.natAbs / y.natAbs : Nat) : Int) := by
  rcases sgn3 x with h | h | h <;> rcases sgn3 y with g | g | g
  · obtain ⟨a, rfl⟩ : ∃ a : Nat, x = -(a : Int) := ⟨x.natAbs, by omega⟩
    obtain ⟨b, rfl⟩ : ∃ b : Nat, y = -(b : Int) := ⟨y.natAbs, by omega⟩
    rw [h.1, g.1, Int.neg_tdiv_neg, Int.natAbs_neg, Int.natAbs_neg, Int.natAbs_natCast, Int.natAbs_natCast, ← Int.ofNat_tdiv]
    omega
  · rw [g.2]; simp
  · obtain ⟨a, rfl⟩ : ∃ a : Nat, x = -(a : Int) := ⟨x.natAbs, by omega⟩
    obtain ⟨b, rfl⟩ : ∃ b : Nat, y = (b : Int) := ⟨y.natAbs, by omega⟩
    rw [h.1, g.1, Int.neg_tdiv, Int.natAbs_neg, Int.natAbs_natCast, Int.natAbs_natCast, ← Int.ofNat_tdiv]
    omega
  · rw [h.2]; simp
  · rw [h.2]; simp
  · rw [h.2]; simp
  · obtain ⟨a, rfl⟩ : ∃ a : Nat, x = (a : Int) := ⟨x.natAbs, by omega⟩
    obtain ⟨b, rfl⟩ : ∃ b : Nat, y = -(b : Int) := ⟨y.natAbs, by omega⟩
    rw [h.1, g.1, Int.tdiv_neg, Int.natAbs_neg, Int.natAbs_natCast, Int.natAbs_natCast, ← Int.ofNat_tdiv]
    omega
  · rw [g.2]; simp
  · obtain ⟨a, rfl⟩ : ∃ a : Nat, x = (a : Int) := ⟨x.natAbs, by omega⟩
    obtain ⟨b, rfl⟩ : ∃ b : Nat, y = (b : Int) := ⟨y.natAbs, by omega⟩
    rw [h.1, g.1, Int.natAbs_natCast, Int.natAbs_natCast, ← Int.ofNat_tdiv]
    omega
theorem ln_quo {w v : Nat} (hv : 1 ≤ ln v) (hvw : ln v ≤ ln w) : ln (w / v) ≤ ln w + 1 - ln v := by
  refine ln_le.mpr ?_
  have t1 : tp (ln v - 1) ≤ v := tp_le_of_lt_ln (by omega)
  have t0 : 0 < v := Nat.lt_of_lt_of_le (tp_pos _) t1
  refine (Nat.div_lt_iff_lt_mul t0).mpr ?_
  have t2 := lt_ln w
  have t3 : tp (ln w) = tp (ln w + 1 - ln v) * tp (ln v - 1) := by rw [← tp_add, show ln w + 1 - ln v + (ln v - 1) = ln w by omega]
  exact Nat.lt_of_lt_of_le t2 (by rw [t3]; exact Nat.mul_le_mul_left _ t1)
theorem sw_dividedBy {h0 : xH} {a b mc ms : Nat} {x y : Int} {post : Nat → xH → Prop} (ha : Wh G h0 a x) (hb : Wh G h0 b y) (hG : ∀ q, h0 q = none → G q) (hmc : 6 ≤ mc) (hms : 2 * ln x.natAbs + 8 ≤ ms)
    (k : ∀ r h', Ext h0 h' → Wh G h' r (x.tdiv y) → post r h') : wp_X5_dividedBy h0 mc ms a b post := by
  have la := ha.ln
  have lb := hb.ln
  have ha' := ha
  have hb' := hb
  obtain ⟨d1, n1, a1, -⟩ := ha'
  obtain ⟨d2, n2, b1, -⟩ := hb'
  refine ⟨_, b1, _, rfl, fun h1 => ?_, fun h1 => ⟨_, a1, _, rfl, _, rfl, fun h2 => ?_, fun h2 => ?_⟩⟩
  · rw [sign_iI] at h1
    subst h1
    exact sw_zero' (Ext.rf _) hG (by omega) (by omega) (fun r h' e w => k r h' e (w.to (Int.tdiv_zero x).symm))
  · rw [nI_leI (by omega) (by omega)] at h2
    rw [sign_iI] at h1
    have hy : y.natAbs ≠ 0 := by omega
    have hy1 : 1 ≤ ln y.natAbs := ln_pos hy
    have hz : nI (ln x.natAbs) - nI (ln y.natAbs) + 1 = nI (ln x.natAbs - ln y.natAbs + 1) := by
      rw [nI_iI, nI_iI, nI_iI, iI_sub, show (1 : Int32) = iI 1 from rfl, iI_add]
      congr 1
      omega
    rw [hz, nI_clamp (by omega)]
    refine ⟨nI_pos (by omega), fun u eu => ?_⟩
    subst eu
    refine ⟨by omega, by omega, by omega, fun q1 hq1 g1 e1 => ⟨by omega, by omega, fun q2 hq2 g2 e2 => ⟨1, ln x.natAbs, by omega, by omega, ?_⟩⟩⟩
    have x1 : Ext h0 g1 := by rw [e1]; exact Ext.new hq1
    have x2 : Ext g1 g2 := by rw [e2]; exact Ext.new hq2
    have n1 := fresh_none hq1
    have n2 := fresh_none hq2
    have n2' := x1.none n2
    have x02 := x1.tr x2
    have q12 : q1 ≠ q2 := fun w => by rw [e1, w, x_up_s] at n2; cases n2
    refine sr_init (ha.ext x02) (by rw [e2]; exact x_up_s) (by omega) (by omega) (fun q3 g3 n3 hg3 R1 => ?_)
    have n3' : h0 q3 = none := x02.none n3
    have q13 : q1 ≠ q3 := fun w => by rw [← w, e2, x_up_n q12, e1, x_up_s] at n3; cases n3
    have q23 : q2 ≠ q3 := fun w => by rw [← w, e2, x_up_s] at n3; cases n3
    have x03 : Ext h0 g3 := x02.only (p := fun c => c = q2 ∨ c = q3) (fun c hc => by rcases hc with w | w <;> subst w <;> assumption) (fun c hc => hg3 c (fun w => hc (Or.inl w)) (fun w => hc (Or.inr w)))
    refine ⟨by omega, by omega, fun q4 hq4 g4 e4 => ⟨1, ln y.natAbs, by omega, by omega, ?_⟩⟩
    have x4 : Ext g3 g4 := by rw [e4]; exact Ext.new hq4
    have n4 := fresh_none hq4
    have n4' := x03.none n4
    have x04 := x03.tr x4
    refine sr_init (hb.ext x04) (by rw [e4]; exact x_up_s) (by omega) (by omega) (fun q5 g5 n5 hg5 R2 => ?_)
    have n5' : h0 q5 = none := x04.none n5
    obtain ⟨r1a, ⟨fr, r1b, r1c⟩, r1d, r1e⟩ := R1
    have q24 : q2 ≠ q4 := fun w => by rw [← w] at n4; rw [r1a] at n4; cases n4
    have q34 : q3 ≠ q4 := fun w => by rw [← w] at n4; rw [r1b] at n4; cases n4
    have q25 : q2 ≠ q5 := fun w => by rw [← w, x4 _ _ r1a] at n5; cases n5
    have q35 : q3 ≠ q5 := fun w => by rw [← w, x4 _ _ r1b] at n5; cases n5
    have g3q1 : g3 q1 = some (.inl (0, ln x.natAbs - ln y.natAbs + 1, .inl (fun _ => 0))) := by rw [hg3 q1 q12 q13, e2, x_up_n q12, e1, x_up_s]
    have q14 : q1 ≠ q4 := fun w => by rw [← w, g3q1] at n4; cases n4
    have q15 : q1 ≠ q5 := fun w => by rw [← w, x4 _ _ g3q1] at n5; cases n5
    have x05 : Ext h0 g5 := x04.only (p := fun c => c = q4 ∨ c = q5) (fun c hc => by rcases hc with w | w <;> subst w <;> assumption) (fun c hc => hg5 c (fun w => hc (Or.inl w)) (fun w => hc (Or.inr w)))
    have R1' : Rs g5 q2 q3 (ln x.natAbs) x.natAbs := ⟨by rw [hg5 q2 q24 q25]; exact x4 _ _ r1a, ⟨fr, by rw [hg5 q3 q34 q35]; exact x4 _ _ r1b, r1c⟩, r1d, r1e⟩
    refine ⟨_, R1'.1, sr_divideBy R1' R2 (by rw [hg5 q1 q14 q15]; exact x4 _ _ g3q1) hy (Ne.symm q35) q13 (Ne.symm q15) (by omega) (fun g6 f6 hg6 R3 hf6 hq6 => ?_)⟩
    have x06 : Ext h0 g6 := x05.only (p := fun c => c = q3 ∨ c = q1 ∨ c = q2) (fun c hc => by rcases hc with w | w | w <;> subst w <;> assumption) (fun c hc => hg6 c (fun w => hc (Or.inl w)) (fun w => hc (Or.inr (Or.inl w))) (fun w => hc (Or.inr (Or.inr w))))
    refine ⟨by omega, by omega, fun q7 hq7 g7 e7 => ?_⟩
    have x7 : Ext g6 g7 := by rw [e7]; exact Ext.new hq7
    obtain ⟨d1', n1', a1', -⟩ := ha.ext (x06.tr x7)
    obtain ⟨d2', n2', b1', -⟩ := hb.ext (x06.tr x7)
    refine ⟨_, a1', _, rfl, _, b1', _, rfl, ?_⟩
    rw [iI_mul]
    have hDq : Dg g7 q1 (ln x.natAbs - ln y.natAbs + 1) (x.natAbs / y.natAbs) := ⟨f6, x7 _ _ hf6, fun i hi => hq6 i hi (by omega)⟩
    have hlq := ln_quo hy1 h2
    refine sw_make (x06.tr x7) (x06.none (fresh_none hq7)) (by rw [e7]; exact x_up_s) hDq (by omega) (by omega) (hG _ n1) (fun hw => ?_) (fun h' e' w' => k q7 h' e' (w'.to (tdiv_eq x y).symm))
    have hx0 : x ≠ 0 := fun w => by
      rw [w] at hw
      exact hw (by simp)
    rcases sgn3 x with h | h | h <;> rcases sgn3 y with g | g | g <;> rw [h.1, g.1] <;> first | omega | decide
  · rw [nI_leI (by omega) (by omega)] at h2
    refine sw_zero' (Ext.rf _) hG (by omega) (by omega) (fun r h' e w => k r h' e (w.to ?_))
    rw [tdiv_eq, Nat.div_eq_of_lt (lt_of_ln (by omega))]
    simp
/-- so many divisions bring a common divisor -/
def eu : Nat → Nat → Nat → Prop
  | 0, _, b => b = 0
  | k + 1, a, b => b = 0 ∨ eu k b (a % b)
theorem eu_le {k : Nat} : ∀ {a b}, eu k a b → eu (k + 1) a b := by
  induction k with
  | zero => intro a b h; exact Or.inl h
  | succ k ih =>
    intro a b h
    rcases h with h | h
    · exact Or.inl h
    · exact Or.inr (ih h)
theorem eu_two (n : Nat) : ∀ a b, b < 2 ^ n → eu (2 * n) a b := by
  induction n with
  | zero =>
    intro a b h
    show b = 0
    omega
  | succ n ih =>
    intro a b h
    rw [show 2 * (n + 1) = 2 * n + 1 + 1 by omega]
    by_cases hb : b = 0
    · exact Or.inl hb
    · refine Or.inr ?_
      by_cases hc : a % b = 0
      · exact Or.inl hc
      · refine Or.inr (ih _ _ ?_)
        have h1 : a % b < b := Nat.mod_lt _ (by omega)
        have h2 : b % (a % b) < a % b := Nat.mod_lt _ (by omega)
        have h3 := Nat.div_add_mod b (a % b)
        have h4 : 1 ≤ b / (a % b) := (Nat.le_div_iff_mul_le (by omega)).mpr (by omega)
        have h5 : a % b * 1 ≤ a % b * (b / (a % b)) := Nat.mul_le_mul_left _ h4
        rw [Nat.pow_succ] at h
        omega
theorem sw_cd {post : Nat → xH → Prop} {K : xH → Nat → Nat → Nat → Prop} {h00 : xH} {kc ks x4 g : Nat}
    (k : ∀ h r d N, Ext h00 h → h00 d = none → Rs h r d N g → K h kc ks r) :
    ∀ (n s : Nat) (h : xH) (x2 x3 d2 d3 N2 N3 a b : Nat) (f4 : Nat → Int32), eu n a b → s + n ≤ 999999 → Ext h00 h → h00 x2 = none → h00 x3 = none → h00 d2 = none → h00 d3 = none → h00 x4 = none → Rs h x2 d2 N2 a → Rs h x3 d3 N3 b → h x4 = some (.inl (0, 0, .inl f4)) → x2 ≠ x3 → d2 ≠ d3 → x4 ≠ d2 → x4 ≠ d3 → Nat.gcd a b = g →
      wl_X5_commonDivisor_26 post K (n + 1) h kc ks x2 x3 x4 (nI s) := by
  have big : (1000000 : Int32) = nI 1000000 := rfl
  intro n
  induction n with
  | zero =>
    intro s h x2 x3 d2 d3 N2 N3 a b f4 he hs hE m2 m3 m4 m5 m6 R2 R3 h4 hx hd q1 q2 hg
    rw [wl_X5_commonDivisor_26, big, nI_leI (by decide) (by omega)]
    have hb : b = 0 := he
    have hlb : ln b = 0 := by rw [hb]; rfl
    refine ⟨fun hc => by omega, fun _ => ⟨_, R3.1, _, R3.1, _, rfl, ?_⟩⟩
    rw [hlb]
    refine ⟨fun hc => absurd rfl hc, fun _ => ⟨natb _ (Or.inr rfl), fun _ => k h x2 d2 N2 hE m4 ?_, fun hc => absurd hc (by decide)⟩⟩
    rw [hb, Nat.gcd_zero_right] at hg
    rw [← hg]
    exact R2
  | succ n ih =>
    intro s h x2 x3 d2 d3 N2 N3 a b f4 he hs hE m2 m3 m4 m5 m6 R2 R3 h4 hx hd q1 q2 hg
    rw [wl_X5_commonDivisor_26, big, nI_leI (by decide) (by omega)]
    have l3 := R3.2.2.1
    have l4 := R3.2.2.2
    refine ⟨fun hc => by omega, fun _ => ⟨_, R3.1, _, R3.1, _, rfl, fun hc => ⟨natb _ (Or.inl rfl), fun hc2 => absurd rfl hc2, fun _ => ⟨_, R2.1, ?_⟩⟩, fun hc => ⟨natb _ (Or.inr rfl), fun _ => k h x2 d2 N2 hE m4 ?_, fun hc2 => absurd hc2 (by decide)⟩⟩⟩
    · have hb : b ≠ 0 := fun w => hc (by rw [w]; rfl)
      have he' : eu n b (a % b) := by
        rcases he with w | w
        · exact absurd w hb
        · exact w
      refine sr_divideBy R2 R3 h4 hb (Ne.symm hd) q1 (Ne.symm q2) (by omega) (fun h' f' hh' R' hf' _ x5 e5 => ?_)
      rw [nI_1] at e5
      rw [e5]
      obtain ⟨r3a, ⟨f3, r3b, r3c⟩, r3d, r3e⟩ := R3
      obtain ⟨r2a, ⟨f2, r2b, r2c⟩, -, -⟩ := R2
      have x3d2 : x3 ≠ d2 := fun w => by rw [w, r2b] at r3a; cases r3a
      have x34 : x3 ≠ x4 := fun w => by rw [w, h4] at r3a; cases r3a
      have d3x2 : d3 ≠ x2 := fun w => by rw [w, r2a] at r3b; cases r3b
      exact ih (s + 1) h' x3 x2 d3 d2 N3 N2 b (a % b) f' he' (by omega) (hE.only (p := fun c => c = d2 ∨ c = x4 ∨ c = x2) (fun c hc => by rcases hc with w | w | w <;> subst w <;> assumption) (fun c hc => hh' c (fun w => hc (Or.inl w)) (fun w => hc (Or.inr (Or.inl w))) (fun w => hc (Or.inr (Or.inr w))))) m3 m2 m5 m4 m6 ⟨(hh' x3 x3d2 x34 (Ne.symm hx)).trans r3a, ⟨f3, (hh' d3 (Ne.symm hd) (Ne.symm q2) d3x2).trans r3b, r3c⟩, r3d, r3e⟩ R' hf' (Ne.symm hx) (Ne.symm hd) q2 q1 (by rw [← hg, Nat.gcd_comm b (a % b), ← Nat.gcd_rec, Nat.gcd_comm])
    · have hb : b = 0 := ln_eq_0 ((nI_eq (a := ln b) (b := 0) (by omega) (by decide)).mp hc)
      rw [hb, Nat.gcd_zero_right] at hg
      rw [← hg]
      exact R2
theorem sw_commonDivisor {h0 : xH} {a b mc ms : Nat} {x y : Int} {post : Nat → xH → Prop} (ha : Wh G h0 a x) (hb : Wh G h0 b y) (hG : ∀ q, h0 q = none → G q) (hmc : 6 ≤ mc) (hms : ln x.natAbs + ln y.natAbs + 7 ≤ ms)
    (k : ∀ r h', Ext h0 h' → Wh G h' r (Nat.gcd x.natAbs y.natAbs : Nat) → post r h') : wp_X5_commonDivisor h0 mc ms a b post := by
  have la := ha.ln
  have lb := hb.ln
  refine ⟨by omega, by omega, fun q2 hq2 g2 e2 => ⟨1, ln x.natAbs, by omega, by omega, ?_⟩⟩
  have x02 : Ext h0 g2 := by rw [e2]; exact Ext.new hq2
  have n2 := fresh_none hq2
  refine sr_init (ha.ext x02) (by rw [e2]; exact x_up_s) (by omega) (by omega) (fun q3 g3 n3 hg3 R1 => ?_)
  have n3' : h0 q3 = none := x02.none n3
  have q23 : q2 ≠ q3 := fun w => by rw [← w, e2, x_up_s] at n3; cases n3
  have x03 : Ext h0 g3 := x02.only (p := fun c => c = q2 ∨ c = q3) (fun c hc => by rcases hc with w | w <;> subst w <;> assumption) (fun c hc => hg3 c (fun w => hc (Or.inl w)) (fun w => hc (Or.inr w)))
  refine ⟨by omega, by omega, fun q4 hq4 g4 e4 => ⟨1, ln y.natAbs, by omega, by omega, ?_⟩⟩
  have x4 : Ext g3 g4 := by rw [e4]; exact Ext.new hq4
  have n4 := fresh_none hq4
  have n4' := x03.none n4
  have x04 := x03.tr x4
  refine sr_init (hb.ext x04) (by rw [e4]; exact x_up_s) (by omega) (by omega) (fun q5 g5 n5 hg5 R2 => ?_)
  have n5' : h0 q5 = none := x04.none n5
  obtain ⟨r1a, ⟨fr, r1b, r1c⟩, r1d, r1e⟩ := R1
  have q24 : q2 ≠ q4 := fun w => by rw [← w] at n4; rw [r1a] at n4; cases n4
  have q34 : q3 ≠ q4 := fun w => by rw [← w] at n4; rw [r1b] at n4; cases n4
  have q25 : q2 ≠ q5 := fun w => by rw [← w, x4 _ _ r1a] at n5; cases n5
  have q35 : q3 ≠ q5 := fun w => by rw [← w, x4 _ _ r1b] at n5; cases n5
  have x05 : Ext h0 g5 := x04.only (p := fun c => c = q4 ∨ c = q5) (fun c hc => by rcases hc with w | w <;> subst w <;> assumption) (fun c hc => hg5 c (fun w => hc (Or.inl w)) (fun w => hc (Or.inr w)))
  have R1' : Rs g5 q2 q3 (ln x.natAbs) x.natAbs := ⟨by rw [hg5 q2 q24 q25]; exact x4 _ _ r1a, ⟨fr, by rw [hg5 q3 q34 q35]; exact x4 _ _ r1b, r1c⟩, r1d, r1e⟩
  refine ⟨by decide, fun u eu => ?_⟩
  have : u = 0 := by rw [← eu]; rfl
  subst this
  refine ⟨by decide, by omega, by omega, fun q6 hq6 g6 e6 => ?_⟩
  have x6 : Ext g5 g6 := by rw [e6]; exact Ext.new hq6
  have n6 := fresh_none hq6
  have x06 := x05.tr x6
  have ee : ∀ {r d n w}, Rs g5 r d n w → Rs g6 r d n w := fun R => ⟨x6 _ _ R.1, R.2.1.ext x6, R.2.2⟩
  obtain ⟨r2a, ⟨fr2, r2b, r2c⟩, r2d, r2e⟩ := R2
  obtain ⟨s1a, ⟨fs1, s1b, s1c⟩, -, -⟩ := R1'
  have q63 : q6 ≠ q3 := fun w => by rw [w, s1b] at n6; cases n6
  have q65 : q6 ≠ q5 := fun w => by rw [w, r2b] at n6; cases n6
  have hb2 : y.natAbs < 2 ^ (16 * ln y.natAbs) := by rw [← tp_two]; exact lt_ln _
  refine ⟨2 * (16 * ln y.natAbs) + 1, sw_cd (h00 := h0) (g := Nat.gcd x.natAbs y.natAbs) ?_ (2 * (16 * ln y.natAbs)) 0 g6 q2 q4 q3 q5 (ln x.natAbs) (ln y.natAbs) x.natAbs y.natAbs (fun _ => 0) (eu_two _ _ _ hb2) (by omega) x06 n2 n4' n3' n5' (x05.none n6) (ee ⟨s1a, ⟨fs1, s1b, s1c⟩, r1d, r1e⟩) (ee ⟨r2a, ⟨fr2, r2b, r2c⟩, r2d, r2e⟩) (by rw [e6]; exact x_up_s) q24 q35 q63 q65 rfl⟩
  intro h r d N hE hd R
  refine ⟨_, R.1, 1, 3, by omega, by omega, Nat.le_refl _, Nat.le_refl _, fun q7 hq7 g7 e7 => ?_⟩
  have x7 : Ext h g7 := by rw [e7]; exact Ext.new hq7
  refine ⟨_, x7 _ _ R.1, _, rfl, ?_⟩
  exact sw_make (s := 1) (w := Nat.gcd x.natAbs y.natAbs) (hE.tr x7) (hE.none (fresh_none hq7)) (by rw [e7]; exact x_up_s) (R.2.1.ext x7) R.2.2.2 R.2.2.1 (hG _ hd) (fun _ => Or.inl rfl) (fun h' e' w' => k q7 h' e' (w'.to (Int.one_mul _)))
end
