/-! ===== the class's model (own work) ===== -/
section
def Mo (κ : Nat → Option Nat) (h : xH) (mo n : Nat) (an : Nat → Int) (ad : Nat → Nat) : Prop :=
  ∃ (ps : Nat) (fp : Nat → Option Nat), h mo = some (.inr (1, [.int (nI n), .ref ps])) ∧ h ps = some (.inl (4, 7, .inr (.inr (.inr (.inr fp))))) ∧ κ ps = none ∧ ∀ k, k < 7 → ∃ p, fp k = some p ∧ Pt κ h p k (rk n k) (ck n k) an ad
theorem Mo.ext {κ : Nat → Option Nat} {h h' : xH} {mo n : Nat} {an : Nat → Int} {ad : Nat → Nat} (x : Mo κ h mo n an ad) (he : Ext h h') : Mo κ h' mo n an ad := by
  obtain ⟨ps, fp, h1, h2, hps, h3⟩ := x
  refine ⟨ps, fp, he _ _ h1, he _ _ h2, hps, fun k hk => ?_⟩
  obtain ⟨p, p1, p2⟩ := h3 k hk
  exact ⟨p, p1, p2.ext he⟩
theorem rk_le {n k : Nat} (h1 : 1 ≤ n) (h2 : n ≤ 2) : 1 ≤ rk n k ∧ rk n k ≤ 2 := by unfold rk; split <;> omega
theorem ck_le {n k : Nat} (h1 : 1 ≤ n) (h2 : n ≤ 2) : 1 ≤ ck n k ∧ ck n k ≤ 2 := by unfold ck; split <;> omega
theorem jx_lt {r c k x : Nat} (hr : r ≤ 2) (hc : c ≤ 2) (hx : x < r * c) : 4 * k ≤ jx c k x ∧ jx c k x < 4 * k + 4 := by
  have hp : 0 < c := Nat.pos_of_ne_zero (fun w => by rw [w] at hx; omega)
  have h1 : x / c < r := (Nat.div_lt_iff_lt_mul hp).mpr hx
  have h2 := Nat.mod_lt x hp
  unfold jx
  omega
theorem sm_size {κ : Nat → Option Nat} {h : xH} {mo n : Nat} {an : Nat → Int} {ad : Nat → Nat} {post : Int32 → Prop} (M : Mo κ h mo n an ad) (k : post (nI n)) : wp_X1_size h mo post := by
  obtain ⟨ps, fp, h1, -⟩ := M
  exact ⟨_, h1, _, rfl, k⟩
theorem i32_nat {x : Int32} (h0 : ¬ x < 0) : ∃ i : Nat, x = nI i ∧ i < 2 ^ 31 := by
  refine ⟨x.toInt.toNat, ?_, ?_⟩
  · apply Int32.toInt_inj.mp
    have h1 := Int32.toInt_lt x
    have : ¬ x.toInt < 0 := fun z => h0 (Int32.lt_iff_toInt_lt.mpr z)
    rw [nI_toInt (by omega)]
    omega
  · have h1 := Int32.toInt_lt x
    omega
/-- the told place is one of the model's -/
def hasM (n : Nat) (x1 x2 x3 : Int32) : Prop := ∃ k i j : Nat, x1 = nI k ∧ x2 = nI i ∧ x3 = nI j ∧ k < 7 ∧ i < rk n k ∧ j < ck n k
theorem sm_has {κ : Nat → Option Nat} {h : xH} {mo n : Nat} {an : Nat → Int} {ad : Nat → Nat} {x1 x2 x3 : Int32} {post : Int32 → Prop} (M : Mo κ h mo n an ad) (hn1 : 1 ≤ n) (hn2 : n ≤ 2) (k1 : hasM n x1 x2 x3 → post 1) (k0 : ¬ hasM n x1 x2 x3 → post 0) : wp_X1_has h mo x1 x2 x3 post := by
  obtain ⟨ps, fp, h1, h2, hps, h3⟩ := M
  refine ⟨fun hc => ⟨natb _ (Or.inl rfl), k0 (fun ⟨k, i, j, e1, e2, e3, hk, hi, hj⟩ => nI_pos (n := k) (by omega) (e1 ▸ hc))⟩, fun hc => ?_⟩
  obtain ⟨k, e1, hk⟩ := i32_nat hc
  subst e1
  have n7 : (7 : Int32) = nI 7 := rfl
  rw [n7, nI_leI (by decide) hk]
  refine ⟨fun hc7 => ⟨natb _ (Or.inl rfl), k0 (fun ⟨k', i, j, e1, e2, e3, hk', hi, hj⟩ => ?_)⟩, fun hc7 => ?_⟩
  · rw [nI_eq hk (by omega)] at e1
    omega
  · obtain ⟨p, p1, A, B, fa, fb, a1, -⟩ := h3 k (by omega)
    have r2 := (rk_le (k := k) hn1 hn2).2
    have c2 := (ck_le (k := k) hn1 hn2).2
    refine ⟨_, h1, _, rfl, _, _, h2, vp_in_nI (by omega) (by omega), p, by rw [nI_clamp hk]; exact p1, _, a1, sp_X2_has a1 r2 c2 (fun i j e2 e3 hi hj => ⟨fun z => absurd z (by decide), fun _ => ⟨natb _ (Or.inr rfl), k1 ⟨k, i, j, rfl, e2, e3, by omega, hi, hj⟩⟩⟩) (fun hno => ⟨fun _ => ⟨natb _ (Or.inl rfl), k0 (fun ⟨k', i, j, e1, e2, e3, hk', hi, hj⟩ => ?_)⟩, fun z => absurd rfl z⟩)⟩
    rw [nI_eq hk (by omega)] at e1
    subst e1
    exact hno i j e2 e3 hi hj
theorem sm_isFit {κ : Nat → Option Nat} {h : xH} {mo n k : Nat} {an : Nat → Int} {ad : Nat → Nat} {post : Int32 → Prop} (M : Mo κ h mo n an ad) (hn1 : 1 ≤ n) (hn2 : n ≤ 2) (hk : k = 1 ∨ k = 4 ∨ k = 6) (hb : ∀ x, x < 40 → (an x).natAbs ≤ 20 ∧ ad x ≤ 20) (k1 : fitP (rk n k) k an ad → post 1) (k0 : ¬ fitP (rk n k) k an ad → post 0) : wp_X1_isFit h mo (nI k) post := by
  obtain ⟨ps, fp, h1, h2, hps, h3⟩ := M
  obtain ⟨p, p1, P⟩ := h3 k (by omega)
  have hP' := P
  obtain ⟨A, B, fa, fb, a1, -⟩ := hP'
  refine ⟨_, h1, _, rfl, _, _, h2, vp_in_nI (by omega) (by omega), p, by rw [nI_clamp (by omega)]; exact p1, _, a1, ?_⟩
  have hrc : ck n k = rk n k := by
    unfold rk ck
    rcases hk with w | w | w <;> subst w <;> simp
  rw [hrc] at P
  have hr : rk n k = 1 ∨ rk n k = 2 := by
    have := rk_le (k := k) hn1 hn2
    omega
  rcases hr with w | w <;> rw [w] at P k1 k0
  · exact sp_isFit1 P (hb _ (by omega)).1 (fun hf => ⟨natb _ (Or.inr rfl), k1 hf⟩) (fun hf => ⟨natb _ (Or.inl rfl), k0 hf⟩)
  · exact sp_isFit2 P (fun x hx => hb _ (by omega)) (fun hf => ⟨natb _ (Or.inr rfl), k1 hf⟩) (fun hf => ⟨natb _ (Or.inl rfl), k0 hf⟩)
theorem sm_table {G : Nat → Prop} {κ : Nat → Option Nat} {h0 : xH} {mo n k mc ms : Nat} {an : Nat → Int} {ad : Nat → Nat} {post : Nat → xH → Prop} (M : Mo κ h0 mo n an ad) (hn1 : 1 ≤ n) (hn2 : n ≤ 2) (hk : k < 7) (hb : ∀ x, x < 40 → (an x).natAbs ≤ 20 ∧ 1 ≤ ad x ∧ ad x ≤ 20) (hG : ∀ q, h0 q = none → G q) (hmc : 13 ≤ mc) (hms : 48 ≤ ms)
    (kk : ∀ t h' q D, Ext h0 h' → h0 t = none → 1 ≤ D → D ≤ 20 ^ (rk n k * ck n k) → (∀ x, x < rk n k * ck n k → ad (jx (ck n k) k x) ∣ D ∧ D / ad (jx (ck n k) k x) ≤ 20 ^ (rk n k * ck n k - 1)) → Tb G h' t q (rk n k) (ck n k) (qz an ad (ck n k) k D) D → h0 q = none → h' q = some (.inl (3, rk n k * ck n k, .inr (.inr (.inr (.inr (fun _ => none)))))) → post t h') : wp_X1_table h0 mc ms mo (nI k) post := by
  obtain ⟨ps, fp, h1, h2, hps, h3⟩ := M
  obtain ⟨p, p1, P⟩ := h3 k hk
  have hP' := P
  obtain ⟨A, B, fa, fb, a1, -⟩ := hP'
  have r2 := (rk_le (k := k) hn1 hn2).2
  have c2 := (ck_le (k := k) hn1 hn2).2
  exact ⟨_, h1, _, rfl, _, _, h2, vp_in_nI (by omega) (by omega), p, by rw [nI_clamp (by omega)]; exact p1, _, a1, 13, 48, hmc, hms, st_table P (ixb r2 c2) (fun x hx => hb _ (by have := jx_lt r2 c2 (k := k) hx; omega)) hG (Nat.le_refl _) (Nat.le_refl _) kk⟩
theorem Mo.put {κ : Nat → Option Nat} {h h' : xH} {mo n k i j a : Nat} {an : Nat → Int} {ad : Nat → Nat} {va : Int} {vb : Nat} {ps : Nat} {fp : Nat → Option Nat} (hn1 : 1 ≤ n) (hn2 : n ≤ 2) (hk : k < 7) (hi : i < rk n k) (hj : j < ck n k) (h1 : h mo = some (.inr (1, [.int (nI n), .ref ps]))) (h2 : h ps = some (.inl (4, 7, .inr (.inr (.inr (.inr fp)))))) (h3 : ∀ k, k < 7 → ∃ p, fp k = some p ∧ Pt κ h p k (rk n k) (ck n k) an ad) (hps : κ ps = none) (p1 : fp k = some a)
    (c1 : ∀ q, κ q ≠ some (2 * k) → κ q ≠ some (2 * k + 1) → h' q = h q) (c2 : ∀ q e, h q = some (.inr e) → h' q = some (.inr e)) (P' : Pt κ h' a k (rk n k) (ck n k) (va_up an (4 * k + 2 * i + j) va) (va_up ad (4 * k + 2 * i + j) vb)) :
    h' mo = some (.inr (1, [.int (nI n), .ref ps])) ∧ h' ps = some (.inl (4, 7, .inr (.inr (.inr (.inr fp))))) ∧ ∀ k', k' < 7 → ∃ p, fp k' = some p ∧ Pt κ h' p k' (rk n k') (ck n k') (va_up an (4 * k + 2 * i + j) va) (va_up ad (4 * k + 2 * i + j) vb) := by
  refine ⟨c2 _ _ h1, (c1 ps (by rw [hps]; intro w; cases w) (by rw [hps]; intro w; cases w)).trans h2, fun k' hk' => ?_⟩
  by_cases hkk : k' = k
  · subst hkk
    exact ⟨a, p1, P'⟩
  · obtain ⟨p, q1, q2⟩ := h3 k' hk'
    have r2 := (rk_le (k := k) hn1 hn2).2
    have cc2 := (ck_le (k := k) hn1 hn2).2
    have r2' := (rk_le (k := k') hn1 hn2).2
    have cc2' := (ck_le (k := k') hn1 hn2).2
    refine ⟨p, q1, q2.tags (fun e he => c2 _ _ he) (fun q e hq he => ⟨?_, rfl⟩) (fun x hx => ?_)⟩
    · rw [c1 q (fun w => by rw [w] at hq; rcases hq with z | z <;> injection z with z <;> omega) (fun w => by rw [w] at hq; rcases hq with z | z <;> injection z with z <;> omega)]
      exact he
    · have := jx_lt (k := k') r2' cc2' hx
      exact ⟨va_up_ne _ _ (by omega), va_up_ne _ _ (by omega)⟩
/-- what a told number makes of the model -/
def putM {α : Type} (f : Nat → α) (k i j : Nat) (v : α) : Nat → α := if k = 1 ∨ k = 4 then va_up (va_up f (4 * k + 2 * i + j) v) (4 * k + 2 * j + i) v else va_up f (4 * k + 2 * i + j) v
theorem sm_put {κ : Nat → Option Nat} {h0 : xH} {mo n k i j : Nat} {an : Nat → Int} {ad : Nat → Nat} {va : Int} {vb : Nat} {post : xH → Prop} (M : Mo κ h0 mo n an ad) (hn1 : 1 ≤ n) (hn2 : n ≤ 2) (hk : k < 7) (hi : i < rk n k) (hj : j < ck n k)
    (kk : ∀ h', (∀ q, κ q ≠ some (2 * k) → κ q ≠ some (2 * k + 1) → h' q = h0 q) → (∀ q e, h0 q = some e → (∀ y, e ≠ .inl (0, y)) → h' q = some e) → (∀ q, h' q = none ↔ h0 q = none) → Mo κ h' mo n (putM an k i j va) (putM ad k i j vb) → post h') : wp_X1_put h0 mo (nI k) (nI i) (nI j) (iI va) (nI vb) post := by
  obtain ⟨ps, fp, h1, h2, hps, h3⟩ := M
  obtain ⟨p, p1, P⟩ := h3 k hk
  have hP' := P
  obtain ⟨A, B, fa, fb, a1, -⟩ := hP'
  have r2 := (rk_le (k := k) hn1 hn2).2
  have c2 := (ck_le (k := k) hn1 hn2).2
  refine ⟨_, h1, _, rfl, _, _, h2, vp_in_nI (by omega) (by omega), p, by rw [nI_clamp (by omega)]; exact p1, _, a1, sp_X2_put P r2 c2 hi hj (fun h' b1 b2 b3 P' => ?_)⟩
  obtain ⟨m1, m2, m3⟩ := Mo.put hn1 hn2 hk hi hj h1 h2 h3 hps p1 b1 (fun q e he => b2 q _ he (fun y w => by cases w)) P'
  have n1 : (1 : Int32) = nI 1 := rfl
  have n4 : (4 : Int32) = nI 4 := rfl
  have again : (k = 1 ∨ k = 4) → wj_X1_put_25 post h' mo (nI k) (nI i) (nI j) (iI va) (nI vb) := by
    intro hk14
    obtain ⟨A', B', fa', fb', a1', -⟩ := P'
    have hrc : ck n k = rk n k := by
      unfold rk ck
      rcases hk14 with w | w <;> subst w <;> simp
    refine ⟨_, m1, _, rfl, _, _, m2, vp_in_nI (by omega) (by omega), p, by rw [nI_clamp (by omega)]; exact p1, _, a1', ?_⟩
    obtain ⟨p', p1', P''⟩ := m3 k hk
    rw [p1] at p1'
    cases p1'
    refine sp_X2_put (i := j) (j := i) P'' r2 c2 (by omega) (by omega) (fun h'' d1 d2 d3 P3 => ?_)
    obtain ⟨m1', m2', m3'⟩ := Mo.put (i := j) (j := i) hn1 hn2 hk (by omega) (by omega) m1 m2 m3 hps p1 d1 (fun q e he => d2 q _ he (fun y w => by cases w)) P3
    refine kk h'' (fun q w1 w2 => (d1 q w1 w2).trans (b1 q w1 w2)) (fun q e he hy => d2 q e (b2 q e he hy) hy) (fun q => (d3 q).trans (b3 q)) ?_
    unfold putM
    rw [if_pos hk14, if_pos hk14]
    exact ⟨ps, fp, m1', m2', hps, m3'⟩
  have once : ¬ (k = 1 ∨ k = 4) → post h' := by
    intro hk14
    refine kk h' b1 b2 b3 ?_
    unfold putM
    rw [if_neg hk14, if_neg hk14]
    exact ⟨ps, fp, m1, m2, hps, m3⟩
  rw [n1, n4, nI_eq (by omega) (by decide), nI_eq (by omega) (by decide)]
  exact ⟨fun w => again (Or.inl w), fun w => ⟨fun w2 => once (fun z => z.elim w w2), fun w2 => again (Or.inr w2)⟩⟩
end
