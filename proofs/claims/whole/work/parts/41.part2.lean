/-! ===== the class's parts of the model: table, isFit, a new one (own work) ===== -/
section
variable {G : Nat → Prop}
theorem Ar.st' {h : xH} {q n r k : Nat} {P : Nat → Prop} {z : Nat → Int} {Q : xH → Prop} (ha : Ar G h q n P z) (hr : Wh G h r (z k)) (hk : k < n) (hn : n < 1000)
    (kq : ∀ h', (∀ c, c ≠ q → h' c = h c) → Kw h h' → Ar G h' q n (fun i => P i ∨ i = k) z → Q h') :
    ∃ (n_53 : Nat) (f_53 : Nat → Option Nat), h q = some (.inl (2, n_53, .inr (.inr (.inr (.inr f_53))))) ∧ vp_in (nI k) n_53 ∧ ∃ vs_53 : List Value, h r = some (.inr (5, vs_53)) ∧ ∀ h_53 : xH, h_53 = x_up h q (.inl (2, n_53, .inr (.inr (.inr (.inr (va_up f_53 k (some r))))))) → Q h_53 := by
  have := ha.st (Q := Q) hr hk hn kq
  rw [nI_clamp (by omega)] at this
  exact this
/-- the numbers of a part over one denominator -/
def qz (an : Nat → Int) (ad : Nat → Nat) (c k D x : Nat) : Int := an (jx c k x) * ((D / ad (jx c k x) : Nat) : Int)
theorem st_tab_16 {κ : Nat → Option Nat} {post : Nat → xH → Prop} {K : xH → Nat → Nat → Nat → Int32 → Nat → Prop} {h0 : xH} {p k r c D q kc0 ks0 : Nat} {an : Nat → Int} {ad : Nat → Nat} (hP : Pt κ h0 p k r c an ad) (hn : r * c ≤ 4) (hq : h0 q = none) (hb : ∀ x, x < r * c → (an (jx c k x)).natAbs ≤ 20 ∧ 1 ≤ ad (jx c k x) ∧ ad (jx c k x) ≤ 20) (hD : D ≤ 160000) (hG : ∀ q, h0 q = none → G q)
    (kk : ∀ h kc ks, kc0 ≤ kc → ks0 ≤ ks → Ext h0 h → Ar G h q (r * c) (fun x => x < r * c) (qz an ad c k D) → K h kc ks p (nI D) q) :
    ∀ (m i : Nat) (h : xH) (kc ks : Nat), i + m = r * c → kc0 + 2 * m ≤ kc → ks0 + 7 * m ≤ ks → Ext h0 h → Ar G h q (r * c) (fun x => x < i) (qz an ad c k D) → wl_X2_table_16 post K (m + 1) h kc ks p (nI D) q (nI i) := by
  intro m
  induction m with
  | zero =>
    intro i h kc ks him hkc hks he hA
    rw [wl_X2_table_16]
    obtain ⟨A, B, fa, fb, a1, a2, a3, -, -, a6⟩ := hP.ext he
    obtain rfl : i = r * c := by omega
    exact ⟨_, a1, _, rfl, _, _, a2, fun _ => kk h kc ks (by omega) (by omega) he hA, fun hc => absurd (nI_le (Nat.le_refl _) (by omega)) hc⟩
  | succ m ih =>
    intro i h kc ks him hkc hks he hA
    rw [wl_X2_table_16]
    obtain ⟨A, B, fa, fb, a1, a2, a3, -, -, a6⟩ := hP.ext he
    have i1 : i < r * c := by omega
    obtain ⟨b1, b2, b3⟩ := hb i i1
    obtain ⟨v1, v2⟩ := a6 i i1
    have hdd : D / ad (jx c k i) ≤ D := Nat.div_le_self _ _
    refine ⟨_, a1, _, rfl, _, _, a2, fun hc => absurd hc (nI_ge (by omega) (by omega)), fun _ => ⟨vp_in_nI i1 (by omega), _, rfl, _, _, a3, vp_in_nI i1 (by omega), ?_⟩⟩
    rw [nI_clamp (by omega), v1, v2]
    refine ⟨fun z => ?_, 2, 7, by omega, by omega, ?_⟩
    · rw [show (0 : Int32) = nI 0 from rfl, nI_eq (by omega) (by omega)] at z
      omega
    rw [pk_div (by omega) (by omega) (by omega), nI_iI, iI_mul]
    have hv : (an (jx c k i) * ((D / ad (jx c k i) : Nat) : Int)).natAbs ≤ 20 * 160000 := by
      rw [Int.natAbs_mul, Int.natAbs_natCast]
      exact Nat.mul_le_mul b1 (by omega)
    have hv' : an (jx c k i) * ((D / ad (jx c k i) : Nat) : Int) = qz an ad c k D i := rfl
    rw [hv'] at hv ⊢
    rw [iI_l (by omega) (by omega)]
    refine sw_of (by omega) (fun q hq => hG q (he.none hq)) (Nat.le_refl _) (Nat.le_refl _) (fun r5 h5 e5 v5 => ?_)
    refine (hA.ext e5).st' (k := i) v5 i1 (by omega) (fun h8 c8 k8 hA8 x9 ex9 => ?_)
    rw [nI_1] at ex9
    rw [ex9]
    exact ih (i + 1) h8 _ _ (by omega) (by omega) (by omega) ((he.tr e5).but hq c8) (hA8.imp (fun x hx => by omega))
theorem st_table {κ : Nat → Option Nat} {h0 : xH} {p k r c mc ms : Nat} {an : Nat → Int} {ad : Nat → Nat} {post : Nat → xH → Prop} (hP : Pt κ h0 p k r c an ad) (hn : r * c ≤ 4) (hb : ∀ x, x < r * c → (an (jx c k x)).natAbs ≤ 20 ∧ 1 ≤ ad (jx c k x) ∧ ad (jx c k x) ≤ 20) (hG : ∀ q, h0 q = none → G q) (hmc : 13 ≤ mc) (hms : 48 ≤ ms)
    (kk : ∀ t h' q D, Ext h0 h' → h0 t = none → 1 ≤ D → D ≤ 20 ^ (r * c) → (∀ x, x < r * c → ad (jx c k x) ∣ D ∧ D / ad (jx c k x) ≤ 20 ^ (r * c - 1)) → Tb G h' t q r c (qz an ad c k D) D → h0 q = none → h' q = some (.inl (3, r * c, .inr (.inr (.inr (.inr (fun _ => none)))))) → post t h') : wp_X2_table h0 mc ms p post := by
  have hP' := hP
  obtain ⟨A, B, fa, fb, a1, a2, a3, -, -, a6⟩ := hP'
  refine ⟨_, a1, sp_commonBelow (b := fun x => ad (jx c k x)) a1 a3 hn (fun i hi => ⟨(a6 i hi).2, (hb i hi).2⟩) (fun D d1 d2 d3 => ?_)⟩
  have hp1 := pr_le (b := fun x => ad (jx c k x)) (N := r * c) (fun i hi => (hb i hi).2.2)
  have hp2 : 20 ^ (r * c) ≤ 20 ^ 4 := Nat.pow_le_pow_right (by decide) hn
  have hD : D ≤ 160000 := by omega
  refine ⟨_, rfl, _, _, a2, nI_pos (by omega), fun u' eu => ?_⟩
  rw [nI_clamp (by omega)] at eu
  subst eu
  refine ⟨by omega, by omega, by omega, fun q hq h1 e1 => ?_⟩
  have x1 : Ext h0 h1 := by rw [e1]; exact Ext.new hq
  have n1 := fresh_none hq
  refine ⟨r * c + 1, st_tab_16 (kc0 := 4) (ks0 := 16) hP hn n1 hb hD hG (fun h2 kc ks hk1 hk2 x2 hA => ?_) (r * c) 0 h1 _ _ (by omega) (by omega) (by omega) x1 ⟨_, by rw [e1]; exact x_up_s, fun i hi => by omega⟩⟩
  refine ⟨by omega, by omega, fun q3 hq3 h3 e3 => ?_⟩
  have x3 : Ext h2 h3 := by rw [e3]; exact Ext.new hq3
  obtain ⟨A', B', fa', fb', a1', -⟩ := hP.ext (x2.tr x3)
  refine ⟨_, a1', _, rfl, _, rfl, 2, 7, by omega, by omega, ?_⟩
  rw [i_l _ (by omega)]
  refine sw_of (z := (D : Int)) (by omega) (fun q hq => hG q ((x2.tr x3).none hq)) (Nat.le_refl _) (Nat.le_refl _) (fun w5 h5 x5 hw5 => ⟨1, r * c, by omega, by omega, ?_⟩)
  refine st_init ((x2.tr x3).tr x5) (x2.none (fresh_none hq3)) (x5 _ _ (by rw [e3]; exact x_up_s)) ((hA.ext x3).ext x5) hw5 (by omega) (Nat.le_refl _) (Nat.le_refl _) (fun h' q' e' t' hq' a' => kk q3 h' q' D e' (x2.none (fresh_none hq3)) d1 (Nat.le_trans d2 hp1) (fun x hx => ⟨d3 x hx, ?_⟩) t' hq' a')
  have hbut := pr_but (b := fun x => ad (jx c k x)) (N := r * c) (j := x) (fun i hi => (hb i hi).2.2) hx
  have hpos := (hb x hx).2.1
  refine Nat.div_le_of_le_mul ?_
  exact Nat.le_trans d2 hbut
/-- a part that is told to be a covariance can be one -/
def fitP (s k : Nat) (an : Nat → Int) (ad : Nat → Nat) : Prop := 0 ≤ an (4 * k) ∧ (s = 2 → 0 ≤ an (4 * k + 3) ∧ an (4 * k + 1) * an (4 * k + 1) * (ad (4 * k) : Int) * (ad (4 * k + 3) : Int) ≤ an (4 * k) * an (4 * k + 3) * (ad (4 * k + 1) : Int) * (ad (4 * k + 1) : Int))
theorem mul_b {x y : Int} {a b : Nat} (hx : x.natAbs ≤ a) (hy : y.natAbs ≤ b) : (x * y).natAbs ≤ a * b := by
  rw [Int.natAbs_mul]
  exact Nat.mul_le_mul hx hy
theorem sp_isFit1 {κ : Nat → Option Nat} {h0 : xH} {p k : Nat} {an : Nat → Int} {ad : Nat → Nat} {post : Int32 → Prop} (hP : Pt κ h0 p k 1 1 an ad) (hb : (an (4 * k)).natAbs ≤ 20) (k1 : fitP 1 k an ad → post 1) (k0 : ¬ fitP 1 k an ad → post 0) : wp_X2_isFit h0 p post := by
  obtain ⟨A, B, fa, fb, a1, a2, a3, -, -, a6⟩ := hP
  obtain ⟨v1, v2⟩ := a6 0 (by decide)
  have j0 : jx 1 k 0 = 4 * k := by simp [jx]
  rw [j0] at v1 v2
  have z0 : (0 : Int32) = iI 0 := rfl
  refine ⟨_, a1, _, rfl, _, _, a2, fun x1 e1 => ?_⟩
  have : x1 = 0 := e1
  subst this
  refine ⟨vp_in_nI (n := 0) (by decide) (by decide), ?_⟩
  rw [show (0 : Int32).toNatClampNeg = 0 from rfl, v1]
  refine ⟨fun hc => k0 (fun hf => ?_), fun hc => ⟨vp_in_nI (n := 0) (by decide) (by decide), fun hc2 => ⟨fun hx => absurd rfl hx, fun _ => k1 ⟨?_, fun w => by omega⟩⟩, fun hc2 => k0 (fun hf => ?_)⟩⟩
  · rw [z0, iI_lt (by omega) (by omega)] at hc
    have := hf.1
    omega
  · rw [z0, iI_lt (by omega) (by omega)] at hc
    omega
  · rw [z0, iI_le (by omega) (by omega)] at hc2
    have := hf.1
    omega
theorem sp_isFit2 {κ : Nat → Option Nat} {h0 : xH} {p k : Nat} {an : Nat → Int} {ad : Nat → Nat} {post : Int32 → Prop} (hP : Pt κ h0 p k 2 2 an ad) (hb : ∀ x, x < 4 → (an (4 * k + x)).natAbs ≤ 20 ∧ ad (4 * k + x) ≤ 20) (k1 : fitP 2 k an ad → post 1) (k0 : ¬ fitP 2 k an ad → post 0) : wp_X2_isFit h0 p post := by
  obtain ⟨A, B, fa, fb, a1, a2, a3, -, -, a6⟩ := hP
  obtain ⟨u0, w0⟩ := a6 0 (by decide)
  obtain ⟨u1, w1⟩ := a6 1 (by decide)
  obtain ⟨u3, w3⟩ := a6 3 (by decide)
  have j0 : jx 2 k 0 = 4 * k := by simp [jx]
  have j1 : jx 2 k 1 = 4 * k + 1 := by simp [jx]
  have j3 : jx 2 k 3 = 4 * k + 3 := by simp [jx]
  rw [j0] at u0 w0
  rw [j1] at u1 w1
  rw [j3] at u3 w3
  have b0 := hb 0 (by decide)
  have b1 := hb 1 (by decide)
  have b3 := hb 3 (by decide)
  rw [Nat.add_zero] at b0
  have z0 : (0 : Int32) = iI 0 := rfl
  refine ⟨_, a1, _, rfl, _, _, a2, fun x1 e1 => ?_⟩
  have : x1 = nI 3 := e1
  subst this
  refine ⟨vp_in_nI (n := 0) (by decide) (by decide), ?_⟩
  rw [show (0 : Int32).toNatClampNeg = 0 from rfl, show (nI 3).toNatClampNeg = 3 from rfl, u0, u3]
  refine ⟨fun hc => k0 (fun hf => ?_), fun hc => ⟨vp_in_nI (n := 3) (by decide) (by decide), fun hc2 => ⟨fun _ => ⟨vp_in_nI (n := 0) (by decide) (by decide), vp_in_nI (n := 3) (by decide) (by decide), _, rfl, _, _, a3, vp_in_nI (n := 1) (by decide) (by decide), vp_in_nI (n := 1) (by decide) (by decide), fun x2 e2 => ⟨vp_in_nI (n := 1) (by decide) (by decide), vp_in_nI (n := 1) (by decide) (by decide), vp_in_nI (n := 0) (by decide) (by decide), vp_in_nI (n := 3) (by decide) (by decide), fun x3 e3 => ?_⟩⟩, fun hx => absurd hx (by decide)⟩, fun hc2 => k0 (fun hf => ?_)⟩⟩
  · rw [z0, iI_lt (by omega) (by omega)] at hc
    have := hf.1
    omega
  · rw [z0, iI_lt (by omega) (by omega)] at hc
    rw [z0, iI_le (by omega) (by omega)] at hc2
    rw [show (1 : Int32).toNatClampNeg = 1 from rfl, w1, nI_iI, iI_mul, iI_mul, iI_mul] at e2
    rw [show (1 : Int32).toNatClampNeg = 1 from rfl, u1, w0, w3, nI_iI, nI_iI, iI_mul, iI_mul, iI_mul] at e3
    rw [e2, e3]
    have m2 := mul_b (mul_b (mul_b b0.1 b3.1) (show ((ad (4 * k + 1) : Int)).natAbs ≤ 20 from b1.2)) (show ((ad (4 * k + 1) : Int)).natAbs ≤ 20 from b1.2)
    have m3 := mul_b (mul_b (mul_b b1.1 b1.1) (show ((ad (4 * k) : Int)).natAbs ≤ 20 from b0.2)) (show ((ad (4 * k + 3) : Int)).natAbs ≤ 20 from b3.2)
    rw [iI_lt (by omega) (by omega)]
    refine ⟨fun hlt => ⟨natb _ (Or.inl rfl), k0 (fun hf => ?_)⟩, fun hge => ⟨natb _ (Or.inr rfl), k1 ⟨by omega, fun _ => ⟨by omega, by omega⟩⟩⟩⟩
    have := (hf.2 rfl).2
    omega
  · rw [z0, iI_le (by omega) (by omega)] at hc2
    have := (hf.2 rfl).1
    omega
theorem sp_X2_init {h0 : xH} {x0 r c mc ms : Nat} {post : xH → Prop} (hx : h0 x0 = some (.inr (2, [.int 0, .int 0, .null, .null]))) (hn : r * c ≤ 4) (hmc : 2 ≤ mc) (hms : 8 ≤ ms)
    (k : ∀ h' A B g, h0 A = none → h0 B = none → A ≠ B → (∀ q, q ≠ x0 → q ≠ A → q ≠ B → h' q = h0 q) → h' x0 = some (.inr (2, [.int (nI r), .int (nI c), .ref A, .ref B])) → h' A = some (.inl (0, r * c, .inl (fun _ => 0))) → h' B = some (.inl (0, r * c, .inl g)) → (∀ i, i < r * c → g i = 1) → post h') : wp_X2_init h0 mc ms x0 (nI r) (nI c) post := by
  refine ⟨_, hx, Nat.le_of_ble_eq_true rfl, fun h1 e1 => ⟨Nat.le_of_ble_eq_true rfl, fun h2 e2 => ?_⟩⟩
  have h2x : h2 x0 = some (.inr (2, [.int (nI r), .int (nI c), .null, .null])) := by rw [e2, x_up_s]; rfl
  have h2c : ∀ q, q ≠ x0 → h2 q = h0 q := fun q hq => by rw [e2, x_up_n hq, e1, x_up_n hq]
  rw [nI_mulN, nI_clamp (by omega)]
  refine ⟨nI_pos (by omega), fun u eu => ?_⟩
  subst eu
  refine ⟨by omega, by omega, by omega, fun A hA h3 e3 => ?_⟩
  have nA := fresh_none hA
  have hxA : x0 ≠ A := fun w => by rw [← w, h2x] at nA; cases nA
  have h3x : h3 x0 = some (.inr (2, [.int (nI r), .int (nI c), .null, .null])) := by rw [e3, x_up_n hxA]; exact h2x
  refine ⟨_, h3x, Nat.le_of_ble_eq_true rfl, fun h4 e4 => ⟨nI_pos (by omega), fun u eu => ?_⟩⟩
  subst eu
  refine ⟨by omega, by omega, by omega, fun B hB h5 e5 => ?_⟩
  have h4x : h4 x0 = some (.inr (2, [.int (nI r), .int (nI c), .ref A, .null])) := by rw [e4, x_up_s]; rfl
  have h4A : h4 A = some (.inl (0, r * c, .inl (fun _ => 0))) := by rw [e4, x_up_n (Ne.symm hxA), e3, x_up_s]
  have nB := fresh_none hB
  have hxB : x0 ≠ B := fun w => by rw [← w, h4x] at nB; cases nB
  have hAB : A ≠ B := fun w => by rw [← w, h4A] at nB; cases nB
  have h5x : h5 x0 = some (.inr (2, [.int (nI r), .int (nI c), .ref A, .null])) := by rw [e5, x_up_n hxB]; exact h4x
  refine ⟨_, h5x, Nat.le_of_ble_eq_true rfl, fun h6 e6 => ⟨B, rfl, r * c, fun _ => 0, ?_, by omega, fun g hg h7 c7 b7 => ?_⟩⟩
  · rw [e6, x_up_n (Ne.symm hxB), e5, x_up_s]
  · refine k h7 A B g (by rw [← h2c A (Ne.symm hxA)]; exact nA) ?_ hAB (fun q q1 q2 q3 => ?_) ?_ ?_ b7 hg
    · rw [← h2c B (Ne.symm hxB)]
      have := nB
      rw [e4, x_up_n (Ne.symm hxB), e3, x_up_n (Ne.symm hAB)] at this
      exact this
    · rw [c7 q q3, e6, x_up_n q1, e5, x_up_n q3, e4, x_up_n q1, e3, x_up_n q2]
      exact h2c q q1
    · rw [c7 x0 hxB, e6, x_up_s]
      rfl
    · rw [c7 A hAB, e6, x_up_n (Ne.symm hxA), e5, x_up_n hAB]
      exact h4A
end
