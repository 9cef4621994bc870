/-! ===== the class's parts of the model (own work) ===== -/
section
def rk (n k : Nat) : Nat := if k = 6 then 1 else n
def ck (n k : Nat) : Nat := if k = 1 ∨ k = 2 ∨ k = 4 then n else 1
def jx (c k x : Nat) : Nat := 4 * k + 2 * (x / c) + x % c
theorem jx_at {c k i j : Nat} (hj : j < c) : jx c k (i * c + j) = 4 * k + 2 * i + j := by
  unfold jx
  rw [(dm hj).1, (dm hj).2]
/-- a part: its two rows of ints, known by their tags -/
def Pt (κ : Nat → Option Nat) (h : xH) (p k r c : Nat) (an : Nat → Int) (ad : Nat → Nat) : Prop :=
  ∃ (A B : Nat) (fa fb : Nat → Int32), h p = some (.inr (2, [.int (nI r), .int (nI c), .ref A, .ref B])) ∧ h A = some (.inl (0, r * c, .inl fa)) ∧ h B = some (.inl (0, r * c, .inl fb)) ∧ κ A = some (2 * k) ∧ κ B = some (2 * k + 1) ∧ ∀ x, x < r * c → fa x = iI (an (jx c k x)) ∧ fb x = nI (ad (jx c k x))
theorem Pt.ext {κ : Nat → Option Nat} {h h' : xH} {p k r c : Nat} {an : Nat → Int} {ad : Nat → Nat} (x : Pt κ h p k r c an ad) (he : Ext h h') : Pt κ h' p k r c an ad := by
  obtain ⟨A, B, fa, fb, h1, h2, h3, h4⟩ := x
  exact ⟨A, B, fa, fb, he _ _ h1, he _ _ h2, he _ _ h3, h4⟩
theorem Pt.tags {κ κ' : Nat → Option Nat} {h h' : xH} {p k r c : Nat} {an an' : Nat → Int} {ad ad' : Nat → Nat} (x : Pt κ h p k r c an ad) (h1 : ∀ e, h p = some (.inr (2, e)) → h' p = some (.inr (2, e))) (h2 : ∀ q e, (κ q = some (2 * k) ∨ κ q = some (2 * k + 1)) → h q = some e → h' q = some e ∧ κ' q = κ q) (h3 : ∀ x, x < r * c → an' (jx c k x) = an (jx c k x) ∧ ad' (jx c k x) = ad (jx c k x)) : Pt κ' h' p k r c an' ad' := by
  obtain ⟨A, B, fa, fb, a1, a2, a3, a4, a5, a6⟩ := x
  obtain ⟨b1, b2⟩ := h2 A _ (Or.inl a4) a2
  obtain ⟨b3, b4⟩ := h2 B _ (Or.inr a5) a3
  refine ⟨A, B, fa, fb, h1 _ a1, b1, b3, b2.trans a4, b4.trans a5, fun x hx => ?_⟩
  rw [(h3 x hx).1, (h3 x hx).2]
  exact a6 x hx
theorem sp_X2_has {h0 : xH} {p A B r c : Nat} {x1 x2 : Int32} {post : Int32 → Prop} (hp : h0 p = some (.inr (2, [.int (nI r), .int (nI c), .ref A, .ref B]))) (hr : r ≤ 2) (hc : c ≤ 2)
    (k1 : ∀ i j : Nat, x1 = nI i → x2 = nI j → i < r → j < c → post 1) (k0 : (∀ i j : Nat, x1 = nI i → x2 = nI j → i < r → ¬ j < c) → post 0) : wp_X2_has h0 p x1 x2 post := by
  have inj : ∀ {a b : Nat}, a ≤ 2 → b < 2 → nI a = nI b → a = b := fun ha hb z => (nI_eq (by omega) (by omega)).mp z
  have lt0 : ∀ {b : Nat}, b < 2 → ¬ nI b < 0 := fun hb => nI_pos (by omega)
  have big : ∀ {x : Int32} {r : Nat}, r ≤ 2 → ¬ x < 0 → ¬ nI r ≤ x → ∃ i : Nat, x = nI i ∧ i < r := by
    intro x r hr hx hx2
    refine ⟨x.toInt.toNat, ?_, ?_⟩
    · apply Int32.toInt_inj.mp
      have h1 := Int32.toInt_lt x
      have : ¬ x.toInt < 0 := fun z => hx (Int32.lt_iff_toInt_lt.mpr z)
      rw [nI_toInt (by omega)]
      omega
    · have : ¬ x.toInt < 0 := fun z => hx (Int32.lt_iff_toInt_lt.mpr z)
      have h2 : ¬ (nI r).toInt ≤ x.toInt := fun z => hx2 (Int32.le_iff_toInt_le.mpr z)
      rw [nI_toInt (by omega)] at h2
      omega
  refine ⟨fun hx => ⟨natb _ (Or.inl rfl), k0 (fun i j e1 e2 hi _ => lt0 (by omega) (e1 ▸ hx))⟩, fun hx => ⟨_, hp, _, rfl, fun hy => ⟨natb _ (Or.inl rfl), k0 (fun i j e1 e2 hi _ => ?_)⟩, fun hy => ⟨fun hz => ⟨natb _ (Or.inl rfl), k0 (fun i j e1 e2 hi hj => lt0 (by omega) (e2 ▸ hz))⟩, fun hz => ⟨_, rfl, fun hw => ⟨natb _ (Or.inl rfl), k0 (fun i j e1 e2 hi hj => ?_)⟩, fun hw => ⟨natb _ (Or.inr rfl), ?_⟩⟩⟩⟩⟩
  · rw [e1, nI_leI (by omega) (by omega)] at hy
    omega
  · rw [e2, nI_leI (by omega) (by omega)] at hw
    omega
  · obtain ⟨i, i1, i2⟩ := big hr hx hy
    obtain ⟨j, j1, j2⟩ := big hc hz hw
    exact k1 i j i1 j1 i2 j2
theorem sp_X2_put {κ : Nat → Option Nat} {h0 : xH} {p k r c i j : Nat} {an : Nat → Int} {ad : Nat → Nat} {a : Int} {b : Nat} {post : xH → Prop} (hP : Pt κ h0 p k r c an ad) (hr : r ≤ 2) (hc : c ≤ 2) (hi : i < r) (hj : j < c)
    (kk : ∀ h', (∀ q, κ q ≠ some (2 * k) → κ q ≠ some (2 * k + 1) → h' q = h0 q) → (∀ q e, h0 q = some e → (∀ y, e ≠ .inl (0, y)) → h' q = some e) → (∀ q, h' q = none ↔ h0 q = none) → Pt κ h' p k r c (va_up an (4 * k + 2 * i + j) a) (va_up ad (4 * k + 2 * i + j) b) → post h') : wp_X2_put h0 p (nI i) (nI j) (iI a) (nI b) post := by
  obtain ⟨A, B, fa, fb, a1, a2, a3, a4, a5, a6⟩ := hP
  have i1 := ix hi hj
  have ib := ixb hr hc
  have hAB : B ≠ A := fun w => by rw [w, a4] at a5; injection a5 with a5; omega
  have hpA : p ≠ A := fun w => by rw [w, a2] at a1; cases a1
  have hpB : p ≠ B := fun w => by rw [w, a3] at a1; cases a1
  refine ⟨_, a1, _, rfl, _, rfl, _, _, a2, ?_⟩
  rw [nI_mulN, nI_add]
  refine ⟨vp_in_nI i1 (by omega), fun h1 e1 => ?_⟩
  have p1 : h1 p = some (.inr (2, [.int (nI r), .int (nI c), .ref A, .ref B])) := by rw [e1, x_up_n hpA]; exact a1
  have p2 : h1 B = some (.inl (0, r * c, .inl fb)) := by rw [e1, x_up_n hAB]; exact a3
  refine ⟨_, p1, _, rfl, _, rfl, _, _, p2, ?_⟩
  rw [nI_mulN, nI_add]
  refine ⟨vp_in_nI i1 (by omega), fun h2 e2 => ?_⟩
  rw [nI_clamp (by omega)] at e1 e2
  have hq : ∀ q, q ≠ A → q ≠ B → h2 q = h0 q := fun q q1 q2 => by rw [e2, x_up_n q2, e1, x_up_n q1]
  have hno : ∀ q, h2 q = none ↔ h0 q = none := by
    intro q
    by_cases hA : q = A
    · subst hA
      rw [e2, x_up_n (Ne.symm hAB), e1, x_up_s, a2]
      constructor <;> (intro w; cases w)
    · by_cases hB : q = B
      · subst hB
        rw [e2, x_up_s, a3]
        constructor <;> (intro w; cases w)
      · rw [hq q hA hB]
  refine kk h2 (fun q q1 q2 => hq q (fun w => q1 (w ▸ a4)) (fun w => q2 (w ▸ a5))) (fun q e he hy => by rw [hq q (fun w => by rw [w, a2] at he; injection he with he; exact hy _ he.symm) (fun w => by rw [w, a3] at he; injection he with he; exact hy _ he.symm)]; exact he) hno ⟨A, B, upd fa (i * c + j) (iI a), upd fb (i * c + j) (nI b), ?_, ?_, ?_, a4, a5, fun x hx => ?_⟩
  · rw [hq p hpA hpB]
    exact a1
  · rw [e2, x_up_n (Ne.symm hAB), e1, x_up_s]
  · rw [e2, x_up_s]
  · by_cases hxe : x = i * c + j
    · subst hxe
      rw [upd_s, upd_s, jx_at hj, va_up_self, va_up_self]
      exact ⟨rfl, rfl⟩
    · have hne : jx c k x ≠ 4 * k + 2 * i + j := by
        intro w
        apply hxe
        have hp0 : 0 < c := by omega
        have m1 := Nat.mod_lt x hp0
        have m2 := Nat.div_add_mod x c
        unfold jx at w
        have : x / c = i ∧ x % c = j := by omega
        rw [← this.1, ← this.2, Nat.mul_comm]
        omega
      rw [upd_n hxe, upd_n hxe, va_up_ne _ _ hne, va_up_ne _ _ hne]
      exact a6 x hx
/-! the least common denominator -/
def pr (b : Nat → Nat) : Nat → Nat
  | 0 => 1
  | n + 1 => pr b n * b n
theorem pr_le {b : Nat → Nat} {N : Nat} (h : ∀ i, i < N → b i ≤ 20) : pr b N ≤ 20 ^ N := by
  induction N with
  | zero => exact Nat.le_refl _
  | succ N ih =>
    rw [Nat.pow_succ]
    exact Nat.mul_le_mul (ih (fun i hi => h i (by omega))) (h N (by omega))
theorem pr_but {b : Nat → Nat} {N j : Nat} (h : ∀ i, i < N → b i ≤ 20) (hj : j < N) : pr b N ≤ b j * 20 ^ (N - 1) := by
  induction N with
  | zero => omega
  | succ N ih =>
    rw [show N + 1 - 1 = N by omega]
    by_cases hjN : j = N
    · subst hjN
      rw [Nat.mul_comm (b j)]
      exact Nat.mul_le_mul_right _ (pr_le (fun i hi => h i (by omega)))
    · have h1 := ih (fun i hi => h i (by omega)) (by omega)
      have h2 : pr b N * b N ≤ b j * 20 ^ (N - 1) * 20 := Nat.mul_le_mul h1 (h N (by omega))
      have h3 : 20 ^ N = 20 ^ (N - 1) * 20 := by rw [← Nat.pow_succ, Nat.succ_eq_add_one, show N - 1 + 1 = N by omega]
      rw [h3, ← Nat.mul_assoc]
      exact h2
theorem sp_cb_18 {h0 : xH} {p A B r c i d N : Nat} {fb : Nat → Int32} {post : Int32 → Prop} {K : Nat → Int32 → Int32 → Prop} {b : Nat} (hp : h0 p = some (.inr (2, [.int (nI r), .int (nI c), .ref A, .ref B]))) (hB : h0 B = some (.inl (0, N, .inl fb))) (hN : N ≤ 4) (hi : i < N) (hb : fb i = nI b) (hb1 : 1 ≤ b) (hb2 : b ≤ 20) (hd : d ≤ 160000)
    (k : ∀ t, 1 ≤ t → t ≤ b → b ∣ d * t → K p (nI i) (nI (d * t))) :
    ∀ (m t : Nat), t + m = b → 1 ≤ t → wl_X2_commonBelow_18 h0 post K (m + 1) p (nI d) (nI i) (nI (d * t)) (nI t) := by
  intro m
  induction m with
  | zero =>
    intro t htm ht
    rw [wl_X2_commonBelow_18]
    obtain rfl : t = b := by omega
    refine ⟨_, hp, _, rfl, _, _, hB, vp_in_nI hi (by omega), ?_⟩
    rw [nI_clamp (by omega), hb]
    exact ⟨fun _ => k t ht (Nat.le_refl _) (Nat.dvd_mul_left _ _), fun hc => absurd (nI_le (Nat.le_refl _) (by omega)) hc⟩
  | succ m ih =>
    intro t htm ht
    rw [wl_X2_commonBelow_18]
    have hdt : d * t ≤ 160000 * 20 := Nat.mul_le_mul hd (by omega)
    refine ⟨_, hp, _, rfl, _, _, hB, vp_in_nI hi (by omega), ?_⟩
    rw [nI_clamp (by omega), hb, pk_rem (by omega) (by omega) (by omega)]
    refine ⟨fun hc => absurd hc (nI_ge (by omega) (by omega)), fun _ => ⟨vp_in_nI hi (by omega), fun z => ?_, fun hc => ?_, fun hc x3 e3 x4 e4 => ?_⟩⟩
    · rw [show (0 : Int32) = nI 0 from rfl, nI_eq (by omega) (by omega)] at z
      omega
    · have ml := Nat.mod_lt (d * t) (show 0 < b by omega)
      rw [show (0 : Int32) = nI 0 from rfl, nI_eq (by omega) (by omega)] at hc
      exact k t ht (by omega) (Nat.dvd_of_mod_eq_zero hc)
    · rw [nI_add, show d * t + d = d * (t + 1) by rw [Nat.mul_add, Nat.mul_one]] at e3
      rw [nI_1] at e4
      rw [e3, e4]
      exact ih (t + 1) (by omega) (by omega)
theorem sp_cb_4 {h0 : xH} {p A B r c N : Nat} {fb : Nat → Int32} {post : Int32 → Prop} {K : Int32 → Prop} {b : Nat → Nat} (hp : h0 p = some (.inr (2, [.int (nI r), .int (nI c), .ref A, .ref B]))) (hB : h0 B = some (.inl (0, N, .inl fb))) (hN : N ≤ 4) (hb : ∀ i, i < N → fb i = nI (b i) ∧ 1 ≤ b i ∧ b i ≤ 20)
    (k : ∀ d, 1 ≤ d → d ≤ pr b N → (∀ j, j < N → b j ∣ d) → K (nI d)) :
    ∀ (m i d : Nat), i + m = N → 1 ≤ d → d ≤ pr b i → (∀ j, j < i → b j ∣ d) → wl_X2_commonBelow_4 h0 post K (m + 1) p (nI d) (nI i) := by
  intro m
  induction m with
  | zero =>
    intro i d him hd1 hd2 hd3
    rw [wl_X2_commonBelow_4]
    obtain rfl : i = N := by omega
    exact ⟨_, hp, _, rfl, _, _, hB, fun _ => k d hd1 hd2 hd3, fun hc => absurd (nI_le (Nat.le_refl _) (by omega)) hc⟩
  | succ m ih =>
    intro i d him hd1 hd2 hd3
    rw [wl_X2_commonBelow_4]
    obtain ⟨c1, c2, c3⟩ := hb i (by omega)
    have hp1 := pr_le (b := b) (N := i) (fun j hj => (hb j (by omega)).2.2)
    have hp2 : 20 ^ i ≤ 20 ^ 4 := Nat.pow_le_pow_right (by decide) (by omega)
    refine ⟨_, hp, _, rfl, _, _, hB, fun hc => absurd hc (nI_ge (by omega) (by omega)), fun _ => ⟨b i - 1 + 1, ?_⟩⟩
    have key := sp_cb_18 (post := post) (K := fun (x0 : Nat) (x2 : Int32) (x3 : Int32) => wj_X2_commonBelow_50 h0 post (wl_X2_commonBelow_4 h0 post K (m + 1)) K x0 x2 x3) (d := d) (i := i) hp hB hN (by omega) c1 c2 c3 (by omega) (fun t t1 t2 t3 x2 e2 => ?_) (b i - 1) 1 (by omega) (Nat.le_refl _)
    · rw [Nat.mul_one] at key
      exact key
    · rw [nI_1] at e2
      rw [e2]
      refine ih (i + 1) (d * t) (by omega) (Nat.mul_le_mul hd1 t1) (Nat.mul_le_mul hd2 t2) (fun j hj => ?_)
      by_cases hji : j = i
      · subst hji
        exact t3
      · exact Nat.dvd_trans (hd3 j (by omega)) (Nat.dvd_mul_right _ _)
theorem sp_commonBelow {h0 : xH} {p A B r c N : Nat} {fb : Nat → Int32} {post : Int32 → Prop} {b : Nat → Nat} (hp : h0 p = some (.inr (2, [.int (nI r), .int (nI c), .ref A, .ref B]))) (hB : h0 B = some (.inl (0, N, .inl fb))) (hN : N ≤ 4) (hb : ∀ i, i < N → fb i = nI (b i) ∧ 1 ≤ b i ∧ b i ≤ 20)
    (k : ∀ d, 1 ≤ d → d ≤ pr b N → (∀ j, j < N → b j ∣ d) → post (nI d)) : wp_X2_commonBelow h0 p post :=
  ⟨N + 1, sp_cb_4 hp hB hN hb k N 0 1 (by omega) (Nat.le_refl _) (Nat.le_refl _) (fun j hj => by omega)⟩
end
