/-! ===== the class's asked fractions (own work) ===== -/
section
def mutE : xE → Prop
  | .inl a => a.1 = 3
  | .inr o => o.1 = 0 ∨ o.1 = 6
/-- all that stays as it is has stayed -/
def Mv (h h' : xH) : Prop := ∀ (b : Nat) (e : xE), h b = some e → ¬ mutE e → h' b = some e
theorem Ext.mv {h h' : xH} (e : Ext h h') : Mv h h' := fun b x z _ => e b x z
theorem Mv.tr {a b c : xH} (h1 : Mv a b) (h2 : Mv b c) : Mv a c := fun q e z i => h2 q e (h1 q e z i) i
theorem Mv.kw {h h' : xH} (m : Mv h h') : Kw h h' := fun b e z i => m b e z (by
  rcases e with a | o
  · intro w
    have i' : a.1 = 0 := i
    have w' : a.1 = 3 := w
    omega
  · intro w
    have i' : o.1 = 5 := i
    have w' : o.1 = 0 ∨ o.1 = 6 := w
    omega)
theorem Mv.off {h h' : xH} {q : Nat} {e : xE} (hq : h q = some e) (hi : mutE e) (hc : ∀ c, c ≠ q → h' c = h c) : Mv h h' := by
  intro b x z i
  by_cases hb : b = q
  · rw [hb, hq] at z
    cases z
    exact absurd hi i
  · rw [hc b hb]
    exact z
variable {G : Nat → Prop}
theorem Wh.mv {h h' : xH} {a : Nat} {z : Int} (x : Wh G h a z) (he : Mv h h') : Wh G h' a z := x.kw he.kw
theorem Tb.mv {h h' : xH} {t q r c D : Nat} {z : Nat → Int} (x : Tb G h t q r c z D) (he : Mv h h') : Tb G h' t q r c z D := by
  obtain ⟨a, b, h1, ⟨f, h2, h3⟩, h4⟩ := x
  refine ⟨a, b, he _ _ h1 (by intro w; rcases w with w | w <;> cases w), ⟨f, he _ _ h2 (by intro w; cases w), fun i hi => ?_⟩, h4.mv he⟩
  obtain ⟨w, w1, w2⟩ := h3 i hi
  exact ⟨w, w1, w2.mv he⟩
theorem Mo.mv {κ : Nat → Option Nat} {h h' : xH} {mo n : Nat} {an : Nat → Int} {ad : Nat → Nat} (x : Mo κ h mo n an ad) (he : Mv h h') : Mo κ h' mo n an ad := by
  obtain ⟨ps, fp, h1, h2, hps, h3⟩ := x
  refine ⟨ps, fp, he _ _ h1 (by intro w; rcases w with w | w <;> cases w), he _ _ h2 (by intro w; cases w), hps, fun k hk => ?_⟩
  obtain ⟨p, p1, A, B, fa, fb, a1, a2, a3, a4⟩ := h3 k hk
  exact ⟨p, p1, A, B, fa, fb, he _ _ a1 (by intro w; rcases w with w | w <;> cases w), he _ _ a2 (by intro w; cases w), he _ _ a3 (by intro w; cases w), a4⟩
theorem Wh.uniq {h : xH} {a : Nat} {x y : Int} (hx : Wh G h a x) (hy : Wh G h a y) : x = y := by
  obtain ⟨d, n, h1, ⟨f, h2, h3⟩, h4, h5, -⟩ := hx
  obtain ⟨d', n', g1, ⟨f', g2, g3⟩, g4, g5, -⟩ := hy
  rw [h1] at g1
  injection g1 with g1
  injection g1 with g1
  injection g1 with _ g1
  injection g1 with s1 g1
  injection g1 with s2 g1
  injection s1 with s1
  injection s2 with s2
  subst s2
  rw [h2] at g2
  injection g2 with g2
  injection g2 with g2
  injection g2 with _ g2
  injection g2 with n1 g2
  subst n1
  injection g2 with g2
  subst g2
  have hs := sgn_eq.mp s1
  have hw : x.natAbs = y.natAbs := by
    rw [← mod_small (ln_le.mp h4), ← mod_small (ln_le.mp g4), ← vl_dg, ← vl_dg]
    refine vl_congr (fun i hi => ?_)
    have l1 := dg_lt x.natAbs i
    have l2 := dg_lt y.natAbs i
    exact (nI_eq (by omega) (by omega)).mp ((h3 i hi).symm.trans (g3 i hi))
  rcases sgn3 x with p | p | p <;> rcases sgn3 y with q | q | q <;> omega
/-- an asked fraction -/
def Fr (G : Nat → Prop) (h : xH) (fr : Nat) (x : Rat) : Prop := ∃ (a b : Nat) (n : Int) (d : Nat) (lo : Int32), h fr = some (.inr (0, [.ref a, .ref b, .int lo])) ∧ Wh G h a n ∧ Wh G h b (d : Int) ∧ 0 < d ∧ x = mkRat n d ∧ (lo = 0 ∨ (lo = 1 ∧ n = x.num ∧ d = x.den)) ∧ n.natAbs < 2 ^ 2560 ∧ d < 2 ^ 2560
theorem Fr.keep {h h' : xH} {fr : Nat} {x : Rat} (F : Fr G h fr x) (hf : h' fr = h fr) (he : Mv h h') : Fr G h' fr x := by
  obtain ⟨a, b, n, d, lo, h1, h2, h3, h4⟩ := F
  exact ⟨a, b, n, d, lo, hf.trans h1, h2.mv he, h3.mv he, h4⟩
theorem Fr.ext {h h' : xH} {fr : Nat} {x : Rat} (F : Fr G h fr x) (he : Ext h h') : Fr G h' fr x := by
  have F' := F
  obtain ⟨a, b, n, d, lo, h1, -⟩ := F'
  exact F.keep ((he _ _ h1).trans h1.symm) he.mv
theorem Fr.uniq {h : xH} {fr : Nat} {x y : Rat} (F : Fr G h fr x) (F' : Fr G h fr y) : x = y := by
  obtain ⟨a, b, n, d, lo, h1, h2, h3, h4, h5, -⟩ := F
  obtain ⟨a', b', n', d', lo', g1, g2, g3, g4, g5, -⟩ := F'
  rw [h1] at g1
  injection g1 with g1
  injection g1 with g1
  injection g1 with _ g1
  injection g1 with s1 g1
  injection g1 with s2 g1
  injection s1 with s1
  injection s2 with s2
  subst s1
  subst s2
  have e1 := h2.uniq g2
  have e2 := h3.uniq g3
  rw [h5, g5, e1, show d = d' by omega]
/-- which numbers the rows of asked fractions stand for -/
def VK (G : Nat → Prop) (V : Nat → Option (Nat × (Nat → Rat))) (h : xH) : Prop := ∀ q N v, V q = some (N, v) → ∃ f : Nat → Option Nat, h q = some (.inl (3, N, .inr (.inr (.inr (.inr f))))) ∧ ∀ i, i < N → f i = none ∨ ∃ fr, f i = some fr ∧ Fr G h fr (v i)
theorem VK.ext {V : Nat → Option (Nat × (Nat → Rat))} {h h' : xH} (x : VK G V h) (he : Ext h h') : VK G V h' := by
  intro q N v hq
  obtain ⟨f, h1, h2⟩ := x q N v hq
  refine ⟨f, he _ _ h1, fun i hi => ?_⟩
  rcases h2 i hi with w | ⟨fr, w1, w2⟩
  · exact Or.inl w
  · exact Or.inr ⟨fr, w1, w2.ext he⟩
/-- a whole heap goes over into another whose asked fractions stand for the same numbers -/
theorem VK.step {V : Nat → Option (Nat × (Nat → Rat))} {h h' : xH} (x : VK G V h) (h1 : ∀ q e, h q = some (.inl (3, e)) → h' q = some (.inl (3, e))) (h2 : ∀ fr y, Fr G h fr y → Fr G h' fr y) : VK G V h' := by
  intro q N v hq
  obtain ⟨f, a1, a2⟩ := x q N v hq
  refine ⟨f, h1 _ _ a1, fun i hi => ?_⟩
  rcases a2 i hi with w | ⟨fr, w1, w2⟩
  · exact Or.inl w
  · exact Or.inr ⟨fr, w1, h2 _ _ w2⟩
theorem st_isNothing {h : xH} {t q D r c : Nat} {z : Nat → Int} {post : Int32 → Prop} (T : Tb G h t q r c z D) (hrc : 0 < r * c) (hrc2 : r * c ≤ 4) (k1 : z 0 = 0 → post 1) (k0 : z 0 ≠ 0 → post 0) : wp_X4_isNothing h t post := by
  obtain ⟨a, b, ta, ⟨f, fa, fb⟩, -⟩ := T
  obtain ⟨w, g, v⟩ := fb 0 hrc
  obtain ⟨d, n, v1, -⟩ := v
  refine ⟨_, ta, _, rfl, _, _, fa, vp_in_nI (n := 0) hrc (by omega), w, g, _, v1, _, v1, _, rfl, fun hc => ⟨natb _ (Or.inl rfl), k0 (fun w => hc (by rw [sign_iI]; exact w))⟩, fun hc => ⟨natb _ (Or.inr rfl), k1 ?_⟩⟩
  rw [sign_iI] at hc
  exact hc
theorem st_has {h0 : xH} {t q r c D : Nat} {z : Nat → Int} {x1 x2 : Int32} {post : Int32 → Prop} (T : Tb G h0 t q r c z D) (hr : r ≤ 2) (hc : c ≤ 2)
    (k1 : ∀ i j : Nat, x1 = nI i → x2 = nI j → i < r → j < c → post 1) (k0 : (∀ i j : Nat, x1 = nI i → x2 = nI j → i < r → ¬ j < c) → post 0) : wp_X4_has h0 t x1 x2 post := by
  obtain ⟨a, b, hp, -⟩ := T
  refine ⟨fun hx => ⟨natb _ (Or.inl rfl), k0 (fun i j e1 e2 hi _ => nI_pos (n := i) (by omega) (e1 ▸ hx))⟩, fun hx => ⟨_, hp, _, rfl, ?_⟩⟩
  obtain ⟨i, e1, hi⟩ := i32_nat hx
  subst e1
  rw [nI_leI (by omega) hi]
  refine ⟨fun hy => ⟨natb _ (Or.inl rfl), k0 (fun i' j e1 e2 hi' _ => by rw [nI_eq hi (by omega)] at e1; omega)⟩, fun hy => ⟨fun hz => ⟨natb _ (Or.inl rfl), k0 (fun i' j e1 e2 hi' hj => nI_pos (n := j) (by omega) (e2 ▸ hz))⟩, fun hz => ⟨_, rfl, ?_⟩⟩⟩
  obtain ⟨j, e2, hj⟩ := i32_nat hz
  subst e2
  rw [nI_leI (by omega) hj]
  refine ⟨fun hw => ⟨natb _ (Or.inl rfl), k0 (fun i' j' e1 e2 hi' hj' => by rw [nI_eq hj (by omega)] at e2; omega)⟩, fun hw => ⟨natb _ (Or.inr rfl), k1 i j rfl rfl (by omega) (by omega)⟩⟩
theorem st_number {V : Nat → Option (Nat × (Nat → Rat))} {h0 : xH} {t q r c D i j mc ms : Nat} {z : Nat → Int} {post : Nat → xH → Prop} (T : Tb G h0 t q r c z D) (hV : VK G V h0) (hq : V q = some (r * c, fun x => mkRat (z x) D)) (hr : r ≤ 2) (hc : c ≤ 2) (hi : i < r) (hj : j < c) (hD0 : 0 < D) (B : ∀ x, x < r * c → (z x).natAbs < 2 ^ 2560) (hD : D < 2 ^ 2560) (hmc : 1 ≤ mc) (hms : 3 ≤ ms)
    (k : ∀ fr h', Mv h0 h' → (∀ b e, h0 b = some (.inr e) → h' b = some (.inr e)) → (∀ b, h' b = none → h0 b = none) → VK G V h' → Fr G h' fr (mkRat (z (i * c + j)) D) → post fr h') : wp_X4_number h0 mc ms t (nI i) (nI j) post := by
  have T' := T
  obtain ⟨a, b, ta, ⟨f, fa, fb⟩, Vb⟩ := T'
  obtain ⟨g, g1, g2⟩ := hV q _ _ hq
  have i1 := ix hi hj
  have ib := ixb hr hc
  refine ⟨_, ta, _, rfl, fun x3 e3 => ?_⟩
  rw [nI_mulN, nI_add] at e3
  subst e3
  refine ⟨_, rfl, _, _, g1, vp_in_nI i1 (by omega), ?_⟩
  rw [nI_clamp (by omega)]
  refine ⟨fun hno => ⟨hmc, hms, fun fr hfr h1 e1 => ?_⟩, fun y hy => ?_⟩
  · have nfr := fresh_none hfr
    have x1 : Ext h0 h1 := by rw [e1]; exact Ext.new hfr
    obtain ⟨a', b', ta', ⟨f', fa', fb'⟩, Vb'⟩ := T.ext x1
    obtain ⟨w, w1, w2⟩ := fb' _ i1
    refine ⟨_, ta', _, rfl, _, _, fa', vp_in_nI i1 (by omega), w, w1, _, rfl, _, by rw [e1]; exact x_up_s, Nat.le_of_ble_eq_true rfl, fun h2 e2 => ⟨Nat.le_of_ble_eq_true rfl, fun h3 e3 => ?_⟩⟩
    have qfr : q ≠ fr := fun w => by rw [w, nfr] at g1; cases g1
    have h3c : ∀ x, x ≠ fr → h3 x = h0 x := fun x hx => by rw [e3, x_up_n hx, e2, x_up_n hx, e1, x_up_n hx]
    have h3f : h3 fr = some (.inr (0, [.ref w, .ref b', .int 0])) := by rw [e3, x_up_s]; rfl
    have x03 : Ext h0 h3 := (Ext.rf h0).but nfr h3c
    refine ⟨_, _, (h3c q qfr).trans g1, vp_in_nI i1 (by omega), _, h3f, fun h4 e4 => ?_⟩
    have h4c : ∀ x, x ≠ q → h4 x = h3 x := fun x hx => by rw [e4, x_up_n hx]
    have m4 : Mv h3 h4 := Mv.off ((h3c q qfr).trans g1) rfl h4c
    have m04 : Mv h0 h4 := x03.mv.tr m4
    have h4q : h4 q = some (.inl (3, r * c, .inr (.inr (.inr (.inr (va_up g (i * c + j) (some fr))))))) := by rw [e4]; exact x_up_s
    have w2' : Wh G h3 w (z (i * c + j)) := by
      have q1 : Kw h1 h3 := Kw.off (q := fr) (by rw [e1]; exact x_up_s) (by intro z; cases z) (fun x hx => by rw [e3, x_up_n hx, e2, x_up_n hx])
      exact w2.kw q1
    have Vb3 : Wh G h3 b' (D : Int) := by
      have q1 : Kw h1 h3 := Kw.off (q := fr) (by rw [e1]; exact x_up_s) (by intro z; cases z) (fun x hx => by rw [e3, x_up_n hx, e2, x_up_n hx])
      exact Vb'.kw q1
    have F4 : Fr G h4 fr (mkRat (z (i * c + j)) D) := ⟨w, b', z (i * c + j), D, 0, by rw [h4c fr (Ne.symm qfr)]; exact h3f, w2'.mv m4, Vb3.mv m4, hD0, rfl, Or.inl rfl, B _ i1, hD⟩
    have o4 : ∀ b e, h0 b = some (.inr e) → h4 b = some (.inr e) := fun b e he => by
      rw [h4c b (fun w => by rw [w, g1] at he; cases he)]
      exact x03 _ _ he
    have keepF : ∀ {y : Nat} {v : Rat}, Fr G h0 y v → Fr G h4 y v := fun {y v} Fy => by
      have Fy' := Fy
      obtain ⟨_, _, _, _, _, f1, -⟩ := Fy'
      exact Fy.keep ((o4 _ _ f1).trans f1.symm) m04
    obtain ⟨a4, b4, ta4, -⟩ := T.mv m04
    refine ⟨_, ta4, _, rfl, _, _, h4q, vp_in_nI i1 (by omega), fr, by rw [nI_clamp (by omega)]; exact va_up_self _ _ _, k fr h4 m04 o4 (fun x hx => ?_) (fun q' N v hq' => ?_) F4⟩
    · have : x ≠ q := fun w => by rw [w, h4q] at hx; cases hx
      rw [h4c x this] at hx
      exact x03.none hx
    · obtain ⟨f', p1, p2⟩ := hV q' N v hq'
      by_cases hqq : q' = q
      · subst hqq
        rw [hq] at hq'
        cases hq'
        rw [g1] at p1
        cases p1
        refine ⟨_, h4q, fun x hx => ?_⟩
        by_cases hxe : x = i * c + j
        · subst hxe
          exact Or.inr ⟨fr, va_up_self _ _ _, F4⟩
        · rw [va_up_ne _ _ hxe]
          rcases p2 x hx with w | ⟨y, y1, y2⟩
          · exact Or.inl w
          · exact Or.inr ⟨y, y1, keepF y2⟩
      · refine ⟨f', ?_, fun x hx => ?_⟩
        · rw [h4c q' hqq]
          exact x03 _ _ p1
        · rcases p2 x hx with w | ⟨y, y1, y2⟩
          · exact Or.inl w
          · exact Or.inr ⟨y, y1, keepF y2⟩
  · rcases g2 _ i1 with w | ⟨fr, w1, w2⟩
    · rw [w] at hy; cases hy
    · exact ⟨_, ta, _, rfl, _, _, g1, vp_in_nI i1 (by omega), fr, by rw [nI_clamp (by omega)]; exact w1, k fr h0 (Ext.rf _).mv (fun _ _ he => he) (fun _ hx => hx) hV w2⟩
end
