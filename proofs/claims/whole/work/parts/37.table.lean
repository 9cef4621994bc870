/-! ===== the class's tables: what they hold, making one, turning one (own work) ===== -/
section
def iw : xE → Prop
  | .inl a => a.1 = 0
  | .inr o => o.1 = 5
def Kw (h h' : xH) : Prop := ∀ (b : Nat) (e : xE), h b = some e → iw e → h' b = some e
theorem Ext.kw {h h' : xH} (e : Ext h h') : Kw h h' := fun b x z _ => e b x z
theorem Kw.tr {a b c : xH} (h1 : Kw a b) (h2 : Kw b c) : Kw a c := fun q e z i => h2 q e (h1 q e z i) i
theorem Kw.off {h h' : xH} {q : Nat} {e : xE} (hq : h q = some e) (hi : ¬ iw e) (hc : ∀ c, c ≠ q → h' c = h c) : Kw h h' := by
  intro b x z i
  by_cases hb : b = q
  · rw [hb, hq] at z
    cases z
    exact absurd i hi
  · rw [hc b hb]
    exact z
variable {G : Nat → Prop}
theorem Wh.kw {h h' : xH} {a : Nat} {z : Int} (x : Wh G h a z) (he : Kw h h') : Wh G h' a z := by
  obtain ⟨d, n, h1, ⟨f, h2, h3⟩, h4⟩ := x
  exact ⟨d, n, he _ _ h1 rfl, ⟨f, he _ _ h2 rfl, h3⟩, h4⟩
theorem Wh.ob {h : xH} {a : Nat} {z : Int} (x : Wh G h a z) : ∃ fs : List Value, h a = some (.inr (5, fs)) := by
  obtain ⟨d, n, h1, -⟩ := x
  exact ⟨_, h1⟩
/-- a row of whole numbers, so far as it is filled -/
def Ar (G : Nat → Prop) (h : xH) (q n : Nat) (P : Nat → Prop) (z : Nat → Int) : Prop := ∃ f : Nat → Option Nat, h q = some (.inl (2, n, .inr (.inr (.inr (.inr f))))) ∧ ∀ i, P i → ∃ w, f i = some w ∧ Wh G h w (z i)
theorem Ar.kw {h h' : xH} {q n : Nat} {P : Nat → Prop} {z : Nat → Int} (x : Ar G h q n P z) (he : Kw h h') (hq : h' q = h q) : Ar G h' q n P z := by
  obtain ⟨f, h1, h2⟩ := x
  refine ⟨f, hq.trans h1, fun i hi => ?_⟩
  obtain ⟨w, w1, w2⟩ := h2 i hi
  exact ⟨w, w1, w2.kw he⟩
theorem Ar.ext {h h' : xH} {q n : Nat} {P : Nat → Prop} {z : Nat → Int} (x : Ar G h q n P z) (he : Ext h h') : Ar G h' q n P z := by
  obtain ⟨f, h1, h2⟩ := x
  refine ⟨f, he _ _ h1, fun i hi => ?_⟩
  obtain ⟨w, w1, w2⟩ := h2 i hi
  exact ⟨w, w1, w2.ext he⟩
theorem Ar.imp {h : xH} {q n : Nat} {P P' : Nat → Prop} {z : Nat → Int} (x : Ar G h q n P z) (hp : ∀ i, P' i → P i) : Ar G h q n P' z := by
  obtain ⟨f, h1, h2⟩ := x
  exact ⟨f, h1, fun i hi => h2 i (hp i hi)⟩
theorem Ar.st {h : xH} {q n r k : Nat} {P : Nat → Prop} {z : Nat → Int} {Q : xH → Prop} (ha : Ar G h q n P z) (hr : Wh G h r (z k)) (hk : k < n) (hn : n < 1000)
    (kq : ∀ h', (∀ c, c ≠ q → h' c = h c) → Kw h h' → Ar G h' q n (fun i => P i ∨ i = k) z → Q h') :
    ∃ (n_53 : Nat) (f_53 : Nat → Option Nat), h q = some (.inl (2, n_53, .inr (.inr (.inr (.inr f_53))))) ∧ vp_in (nI k) n_53 ∧ ∃ vs_53 : List Value, h r = some (.inr (5, vs_53)) ∧ ∀ h_53 : xH, h_53 = x_up h q (.inl (2, n_53, .inr (.inr (.inr (.inr (va_up f_53 ((nI k) : Int32).toNatClampNeg (some r))))))) → Q h_53 := by
  obtain ⟨f, h1, h2⟩ := ha
  obtain ⟨fs, hfs⟩ := hr.ob
  refine ⟨n, f, h1, vp_in_nI hk (by omega), fs, hfs, fun h' e' => ?_⟩
  rw [nI_clamp (by omega)] at e'
  have hc : ∀ c, c ≠ q → h' c = h c := fun c hc => by rw [e', x_up_n hc]
  have hkw : Kw h h' := Kw.off h1 (by intro z; cases z) hc
  refine kq h' hc hkw ⟨va_up f k (some r), by rw [e']; exact x_up_s, fun i hi => ?_⟩
  by_cases hik : i = k
  · subst hik
    exact ⟨r, va_up_self _ _ _, hr.kw hkw⟩
  · obtain ⟨w, w1, w2⟩ := h2 i (by rcases hi with z | z; exact z; exact absurd z hik)
    exact ⟨w, by rw [va_up_ne _ _ hik]; exact w1, w2.kw hkw⟩
/-- a table: its numbers over one denominator; q is where its asked numbers lie -/
def Tb (G : Nat → Prop) (h : xH) (t q r c : Nat) (z : Nat → Int) (D : Nat) : Prop := ∃ a b : Nat, h t = some (.inr (4, [.int (nI r), .int (nI c), .ref a, .ref b, .ref q])) ∧ Ar G h a (r * c) (fun i => i < r * c) z ∧ Wh G h b (D : Int)
theorem Tb.ext {h h' : xH} {t q r c D : Nat} {z : Nat → Int} (x : Tb G h t q r c z D) (he : Ext h h') : Tb G h' t q r c z D := by
  obtain ⟨a, b, h1, h2, h3⟩ := x
  exact ⟨a, b, he _ _ h1, h2.ext he, h3.ext he⟩
theorem st_init {h0 h : xH} {t a b mc ms r c D : Nat} {z : Nat → Int} {post : xH → Prop} (he : Ext h0 h) (hna : h0 t = none) (ht : h t = some (.inr (4, [.int 0, .int 0, .null, .null, .null]))) (ha : Ar G h a (r * c) (fun i => i < r * c) z) (hb : Wh G h b (D : Int)) (hrc : r * c < 1000) (hmc : 1 ≤ mc) (hms : r * c ≤ ms)
    (k : ∀ h' q, Ext h0 h' → Tb G h' t q r c z D → h0 q = none → h' q = some (.inl (3, r * c, .inr (.inr (.inr (.inr (fun _ => none)))))) → post h') : wp_X4_init h mc ms t (nI r) (nI c) a b post := by
  obtain ⟨f, a1, a2⟩ := ha
  have hat : a ≠ t := fun w => by rw [w, ht] at a1; cases a1
  refine ⟨_, ht, Nat.le_of_ble_eq_true rfl, fun h1 e1 => ⟨Nat.le_of_ble_eq_true rfl, fun h2 e2 => ⟨Nat.le_of_ble_eq_true rfl, fun h3 e3 => ⟨Nat.le_of_ble_eq_true rfl, fun h4 e4 => ?_⟩⟩⟩⟩
  have h4c : ∀ c', c' ≠ t → h4 c' = h c' := fun c' hc => by rw [e4, x_up_n hc, e3, x_up_n hc, e2, x_up_n hc, e1, x_up_n hc]
  have h4t : h4 t = some (.inr (4, [.int (nI r), .int (nI c), .ref a, .ref b, .null])) := by rw [e4, x_up_s]; rfl
  refine ⟨_, _, (h4c a hat).trans a1, nI_pos (by omega), fun u eu => ?_⟩
  rw [nI_clamp (by omega)] at eu
  subst eu
  refine ⟨by omega, hmc, hms, fun q hq h5 e5 => ?_⟩
  have hqn := fresh_none hq
  have hqt : t ≠ q := fun w => by rw [← w, h4t] at hqn; cases hqn
  have h5t : h5 t = some (.inr (4, [.int (nI r), .int (nI c), .ref a, .ref b, .null])) := by rw [e5, x_up_n hqt]; exact h4t
  have hqn' : h q = none := by rw [← h4c q (Ne.symm hqt)]; exact hqn
  refine ⟨_, h5t, Nat.le_of_ble_eq_true rfl, fun h6 e6 => ?_⟩
  have h6c : ∀ c', c' ≠ t → c' ≠ q → h6 c' = h c' := fun c' c1 c2 => by rw [e6, x_up_n c1, e5, x_up_n c2]; exact h4c c' c1
  have hkw : Kw h h6 := by
    intro x e hx hi
    by_cases hxt : x = t
    · rw [hxt, ht] at hx
      cases hx
      exact absurd hi (by intro z; cases z)
    · by_cases hxq : x = q
      · rw [hxq, hqn'] at hx
        cases hx
      · rw [h6c x hxt hxq]
        exact hx
  have haq : a ≠ q := fun w => by rw [w, hqn'] at a1; cases a1
  refine k h6 q (he.only (p := fun x => x = t ∨ x = q) (fun x hx => by rcases hx with w | w <;> subst w; exact hna; exact he.none hqn') (fun x hx => h6c x (fun w => hx (Or.inl w)) (fun w => hx (Or.inr w)))) ⟨a, b, ?_, ?_, hb.kw hkw⟩ (he.none hqn') ?_
  · rw [e6, x_up_s]
    rfl
  · exact Ar.kw ⟨f, a1, a2⟩ hkw (h6c a hat haq)
  · rw [e6, x_up_n (Ne.symm hqt), e5, x_up_s]
theorem st_ofFraction {h0 : xH} {mc ms d : Nat} {n : Int} {post : Nat → xH → Prop} (hn : n.natAbs ≤ 1000000) (hd : d ≤ 1000000) (hG : ∀ q, h0 q = none → G q) (hmc : 7 ≤ mc) (hms : 21 ≤ ms)
    (k : ∀ t h' q, Ext h0 h' → h0 t = none → Tb G h' t q 1 1 (fun _ => n) d → h0 q = none → h' q = some (.inl (3, 1, .inr (.inr (.inr (.inr (fun _ => none)))))) → post t h') : wp_X4_ofFraction h0 mc ms (iI n) (nI d) post := by
  refine ⟨by decide, fun u eu => ?_⟩
  have : u = 1 := by rw [← eu]; rfl
  subst this
  refine ⟨by decide, by omega, by omega, fun q1 hq1 h1 e1 => ⟨2, 7, by omega, by omega, ?_⟩⟩
  have x1 : Ext h0 h1 := by rw [e1]; exact Ext.new hq1
  have n1 := fresh_none hq1
  rw [iI_l (by omega) (by omega)]
  refine sw_of (by omega) (fun q hq => hG q (x1.none hq)) (Nat.le_refl _) (Nat.le_refl _) (fun w h2 x2 hw => ?_)
  have hA : Ar G h2 q1 1 (fun _ => False) (fun _ => n) := ⟨_, x2 _ _ (by rw [e1]; exact x_up_s), fun i hi => hi.elim⟩
  refine hA.st (k := 0) hw (by decide) (by decide) (fun h3 c3 k3 hA3 => ⟨by omega, by omega, fun q4 hq4 h4 e4 => ⟨2, 7, by omega, by omega, ?_⟩⟩)
  have x03 : Ext h0 h3 := (x1.tr x2).but n1 c3
  have x4 : Ext h3 h4 := by rw [e4]; exact Ext.new hq4
  rw [i_l _ (by omega)]
  refine sw_of (z := (d : Int)) (by omega) (fun q hq => hG q ((x03.tr x4).none hq)) (Nat.le_refl _) (Nat.le_refl _) (fun w5 h5 x5 hw5 => ⟨1, 1, by omega, by omega, ?_⟩)
  exact st_init (r := 1) (c := 1) ((x03.tr x4).tr x5) (x03.none (fresh_none hq4)) (x5 _ _ (by rw [e4]; exact x_up_s)) (((hA3.ext x4).ext x5).imp (fun i hi => Or.inr (by omega))) hw5 (by decide) (Nat.le_refl _) (Nat.le_refl _) (fun h' q e' t' hq' a' => k q4 h' q e' (x03.none (fresh_none hq4)) t' hq' a')
end
