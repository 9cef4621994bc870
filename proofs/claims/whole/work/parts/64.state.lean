/-! ===== the state of both sides (own work) ===== -/
abbrev Gk (κ : Nat → Option Nat) : Nat → Prop := fun q => κ q = none
abbrev vT : Type := Nat → Option (Nat × (Nat → Rat))
def AS : Type := Nat × (Nat → Int) × (Nat → Nat) × Nat × Nat × Nat × Nat × (Nat → Rat) × (Nat → Rat) × (Nat → Rat) × (Nat → Rat) × (Nat → Rat)
def mkAS (n : Nat) (an : Nat → Int) (ad : Nat → Nat) (ss : Nat) (sd : Nat) (p : Nat) (m : Nat) (X : Nat → Rat) (P : Nat → Rat) (Z : Nat → Rat) (S : Nat → Rat) (K : Nat → Rat) : AS := (n, an, ad, ss, sd, p, m, X, P, Z, S, K)
def AS.n (s : AS) : Nat := Prod.fst s
def AS.an (s : AS) : Nat → Int := Prod.fst (Prod.snd s)
def AS.ad (s : AS) : Nat → Nat := Prod.fst (Prod.snd (Prod.snd s))
def AS.ss (s : AS) : Nat := Prod.fst (Prod.snd (Prod.snd (Prod.snd s)))
def AS.sd (s : AS) : Nat := Prod.fst (Prod.snd (Prod.snd (Prod.snd (Prod.snd s))))
def AS.p (s : AS) : Nat := Prod.fst (Prod.snd (Prod.snd (Prod.snd (Prod.snd (Prod.snd s)))))
def AS.m (s : AS) : Nat := Prod.fst (Prod.snd (Prod.snd (Prod.snd (Prod.snd (Prod.snd (Prod.snd s))))))
def AS.X (s : AS) : Nat → Rat := Prod.fst (Prod.snd (Prod.snd (Prod.snd (Prod.snd (Prod.snd (Prod.snd (Prod.snd s)))))))
def AS.P (s : AS) : Nat → Rat := Prod.fst (Prod.snd (Prod.snd (Prod.snd (Prod.snd (Prod.snd (Prod.snd (Prod.snd (Prod.snd s))))))))
def AS.Z (s : AS) : Nat → Rat := Prod.fst (Prod.snd (Prod.snd (Prod.snd (Prod.snd (Prod.snd (Prod.snd (Prod.snd (Prod.snd (Prod.snd s)))))))))
def AS.S (s : AS) : Nat → Rat := Prod.fst (Prod.snd (Prod.snd (Prod.snd (Prod.snd (Prod.snd (Prod.snd (Prod.snd (Prod.snd (Prod.snd (Prod.snd s))))))))))
def AS.K (s : AS) : Nat → Rat := (Prod.snd (Prod.snd (Prod.snd (Prod.snd (Prod.snd (Prod.snd (Prod.snd (Prod.snd (Prod.snd (Prod.snd (Prod.snd s)))))))))))
def Mb (p m : Nat) : Nat := 9 + 29 * p + (2 ^ m - 1) * (45 + 57 * p) + 5 * m
def Bb (p m : Nat) : Nat := 2 ^ m * (45 + 57 * p) - 27
def AS.ok (s : AS) : Prop := 1 ≤ s.n ∧ s.n ≤ 2 ∧ s.ss ≤ 24 ∧ s.sd ≤ 1 ∧ s.p ≤ 4 ∧ s.m ≤ 3 ∧ (∀ x, x < 40 → (s.an x).natAbs ≤ 20 ∧ 1 ≤ s.ad x ∧ s.ad x ≤ 20) ∧ (s.an 5 = s.an 6 ∧ s.ad 5 = s.ad 6 ∧ s.an 17 = s.an 18 ∧ s.ad 17 = s.ad 18) ∧ (s.sd = 1 → Rp s.X s.n (Mb s.p s.m) ∧ Rp s.P (s.n * s.n) (Bb s.p s.m) ∧ psdn s.n s.P)
/-- cells that the class's methods leave alone -/
def srt : xE → Prop
  | .inl a => a.1 = 0 ∨ a.1 = 1
  | .inr o => o.1 = 7
def Kf (κ : Nat → Option Nat) (h h' : xH) : Prop := ∀ (b : Nat) (e : xE), h b = some e → h' b = some e ∨ (κ b ≠ none ∧ srt e)
theorem Dg.kf {κ : Nat → Option Nat} {h h' : xH} {d n w : Nat} (x : Dg h d n w) (hd : κ d = none) (he : Kf κ h h') : Dg h' d n w := by
  obtain ⟨f, h1, h2⟩ := x
  refine ⟨f, ?_, h2⟩
  rcases he _ _ h1 with z | ⟨z, -⟩
  · exact z
  · exact absurd hd z
theorem Wh.kf {κ : Nat → Option Nat} {h h' : xH} {a : Nat} {z : Int} (x : Wh (Gk κ) h a z) (he : Kf κ h h') : Wh (Gk κ) h' a z := by
  obtain ⟨d, n, h1, h2, h3, h4, h5⟩ := x
  refine ⟨d, n, ?_, h2.kf h5 he, h3, h4, h5⟩
  rcases he _ _ h1 with z | ⟨-, z⟩
  · exact z
  · cases z
theorem Ar.kf {κ : Nat → Option Nat} {h h' : xH} {q n : Nat} {P : Nat → Prop} {z : Nat → Int} (x : Ar (Gk κ) h q n P z) (he : Kf κ h h') : Ar (Gk κ) h' q n P z := by
  obtain ⟨f, h1, h2⟩ := x
  refine ⟨f, ?_, fun i hi => ?_⟩
  · rcases he _ _ h1 with z | ⟨-, z⟩
    · exact z
    · rcases z with z | z <;> cases z
  · obtain ⟨w, w1, w2⟩ := h2 i hi
    exact ⟨w, w1, w2.kf he⟩
theorem Tb.kf {κ : Nat → Option Nat} {h h' : xH} {t q r c D : Nat} {z : Nat → Int} (x : Tb (Gk κ) h t q r c z D) (he : Kf κ h h') : Tb (Gk κ) h' t q r c z D := by
  obtain ⟨a, b, h1, h2, h3⟩ := x
  refine ⟨a, b, ?_, h2.kf he, h3.kf he⟩
  rcases he _ _ h1 with z | ⟨-, z⟩
  · exact z
  · cases z
theorem Fr.kf {κ : Nat → Option Nat} {h h' : xH} {fr : Nat} {x : Rat} (F : Fr (Gk κ) h fr x) (he : Kf κ h h') : Fr (Gk κ) h' fr x := by
  obtain ⟨a, b, n, d, lo, h1, h2, h3, h4⟩ := F
  refine ⟨a, b, n, d, lo, ?_, h2.kf he, h3.kf he, h4⟩
  rcases he _ _ h1 with z | ⟨-, z⟩
  · exact z
  · cases z
theorem VK.kf {κ : Nat → Option Nat} {V : vT} {h h' : xH} (x : VK (Gk κ) V h) (he : Kf κ h h') : VK (Gk κ) V h' := by
  intro q N v hq
  obtain ⟨f, h1, h2⟩ := x q N v hq
  refine ⟨f, ?_, fun i hi => ?_⟩
  · rcases he _ _ h1 with z | ⟨-, z⟩
    · exact z
    · rcases z with z | z <;> cases z
  · rcases h2 i hi with w | ⟨fr, w1, w2⟩
    · exact Or.inl w
    · exact Or.inr ⟨fr, w1, w2.kf he⟩
/-- a table that is kept, with the row of its asked fractions -/
def TS (G : Nat → Prop) (V : vT) (h : xH) (t r c : Nat) (v : Nat → Rat) (b : Nat) : Prop := ∃ (q : Nat) (z : Nat → Int) (D : Nat), Tb G h t q r c z D ∧ V q = some (r * c, fun x => mkRat (z x) D) ∧ 0 < D ∧ D < 2 ^ b ∧ ∀ x, x < r * c → (z x).natAbs < 2 ^ b ∧ v x = mkRat (z x) D
theorem TS.tq {G : Nat → Prop} {V : vT} {h : xH} {t r c b : Nat} {v : Nat → Rat} (T : TS G V h t r c v b) : ∃ q, Tq G h t q r c v b := by
  obtain ⟨q, z, D, h1, -, h2⟩ := T
  exact ⟨q, z, D, h1, h2⟩
theorem TS.mv {G : Nat → Prop} {V : vT} {h h' : xH} {t r c b : Nat} {v : Nat → Rat} (T : TS G V h t r c v b) (he : Mv h h') : TS G V h' t r c v b := by
  obtain ⟨q, z, D, h1, h2⟩ := T
  exact ⟨q, z, D, h1.mv he, h2⟩
theorem TS.kf {κ : Nat → Option Nat} {V : vT} {h h' : xH} {t r c b : Nat} {v : Nat → Rat} (T : TS (Gk κ) V h t r c v b) (he : Kf κ h h') : TS (Gk κ) V h' t r c v b := by
  obtain ⟨q, z, D, h1, h2⟩ := T
  exact ⟨q, z, D, h1.kf he, h2⟩
theorem TS.mono {G : Nat → Prop} {V : vT} {h : xH} {t r c b b' : Nat} {v : Nat → Rat} (T : TS G V h t r c v b) (hb : b ≤ b') : TS G V h t r c v b' := by
  obtain ⟨q, z, D, h1, h2, h3, h4, h5⟩ := T
  exact ⟨q, z, D, h1, h2, h3, up_bits h4 hb, fun x hx => ⟨up_bits (h5 x hx).1 hb, (h5 x hx).2⟩⟩
theorem VK.new {G : Nat → Prop} {V : vT} {h : xH} {q N : Nat} {v : Nat → Rat} (x : VK G V h) (he : emp h q N) : VK G (va_up V q (some (N, v))) h := by
  intro q' N' v' hq
  by_cases hqq : q' = q
  · subst hqq
    rw [va_up_self] at hq
    cases hq
    exact ⟨_, he, fun i _ => Or.inl rfl⟩
  · rw [va_up_ne _ _ hqq] at hq
    exact x q' N' v' hq
theorem TS.keep {G : Nat → Prop} {V : vT} {h : xH} {t r c b q0 : Nat} {v : Nat → Rat} {w : Option (Nat × (Nat → Rat))} (T : TS G V h t r c v b) (hq : V q0 = none) : TS G (va_up V q0 w) h t r c v b := by
  obtain ⟨q, z, D, h1, h2, h3⟩ := T
  refine ⟨q, z, D, h1, ?_, h3⟩
  rw [va_up_ne _ _ (fun z => by rw [z, hq] at h2; cases h2)]
  exact h2
/-- a new table is kept -/
theorem Tq.keep {G : Nat → Prop} {V : vT} {h : xH} {t q r c b : Nat} {v : Nat → Rat} (T : Tq G h t q r c v b) (he : emp h q (r * c)) (hV : VK G V h) (hq : V q = none) : ∃ V', VK G V' h ∧ TS G V' h t r c v b ∧ ∀ {t' r' c' b' : Nat} {v' : Nat → Rat}, TS G V h t' r' c' v' b' → TS G V' h t' r' c' v' b' := by
  obtain ⟨z, D, h1, h2⟩ := T
  refine ⟨va_up V q (some (r * c, fun x => mkRat (z x) D)), hV.new he, ⟨q, z, D, h1, va_up_self _ _ _, h2⟩, fun T' => T'.keep hq⟩
theorem VK.none {G : Nat → Prop} {V : vT} {h : xH} {q : Nat} (x : VK G V h) (hq : h q = Option.none) : V q = Option.none := by
  rcases he : V q with _ | ⟨N, v⟩
  · rfl
  · obtain ⟨f, h1, -⟩ := x q N v he
    rw [hq] at h1
    cases h1
abbrev ofs (mo t0 t1 t2 t3 t4 : Nat) (ss sd p m : Nat) : List Value := [.ref mo, .int (nI ss), .int (nI sd), .int (nI p), .int (nI m), .ref t0, .ref t1, .ref t2, .ref t3, .ref t4]
/-- the class's side -/
def CI (κ : Nat → Option Nat) (V : vT) (S : Nat → Prop) (h : xH) (x1 : Nat) (s : AS) : Prop :=
  (∀ b, h b = none → κ b = none) ∧ (∀ b, S b → κ b = some 100 ∧ ∃ e, h b = some e ∧ srt e) ∧ VK (Gk κ) V h ∧ ∃ mo t0 t1 t2 t3 t4 : Nat, h x1 = some (.inr (6, ofs mo t0 t1 t2 t3 t4 s.ss s.sd s.p s.m)) ∧ Mo κ h mo s.n s.an s.ad ∧
  (s.sd = 1 → TS (Gk κ) V h t0 s.n 1 s.X (Mb s.p s.m) ∧ TS (Gk κ) V h t1 s.n s.n s.P (Bb s.p s.m)) ∧ (s.sd = 1 → 0 < s.m → TS (Gk κ) V h t2 1 1 s.Z 2560 ∧ TS (Gk κ) V h t3 1 1 s.S 2560 ∧ TS (Gk κ) V h t4 s.n 1 s.K 2560)
theorem Mo.kf {κ : Nat → Option Nat} {h h' : xH} {mo n : Nat} {an : Nat → Int} {ad : Nat → Nat} (M : Mo κ h mo n an ad) (he : ∀ b e, h b = some e → h' b = some e ∨ (κ b = some 100 ∧ srt e)) : Mo κ h' mo n an ad := by
  obtain ⟨ps, fp, h1, h2, h3, h4⟩ := M
  refine ⟨ps, fp, ?_, ?_, h3, fun k hk => ?_⟩
  · rcases he _ _ h1 with z | ⟨-, z⟩
    · exact z
    · cases z
  · rcases he _ _ h2 with z | ⟨-, z⟩
    · exact z
    · rcases z with z | z <;> cases z
  · obtain ⟨p, p1, p2⟩ := h4 k hk
    refine ⟨p, p1, p2.tags (fun e hp => ?_) (fun q e hq hp => ⟨?_, rfl⟩) (fun x hx => ⟨rfl, rfl⟩)⟩
    · rcases he _ _ hp with z | ⟨-, z⟩
      · exact z
      · cases z
    · rcases he _ _ hp with z | ⟨z, -⟩
      · exact z
      · rw [z] at hq
        rcases hq with w | w <;> injection w with w <;> omega
/-- what is done to the cells that the class leaves alone does nothing to the class -/
theorem CI.off {κ : Nat → Option Nat} {V : vT} {S : Nat → Prop} {h h' : xH} {x1 : Nat} {s : AS} (C : CI κ V S h x1 s) (h1 : ∀ b, ¬ S b → h' b = h b) (h2 : ∀ b, S b → ∃ e, h' b = some e ∧ srt e) : CI κ V S h' x1 s := by
  obtain ⟨c1, c2, c3, mo, t0, t1, t2, t3, t4, c4, c5, c6, c7⟩ := C
  have he : ∀ b e, h b = some e → h' b = some e ∨ (κ b = some 100 ∧ srt e) := by
    intro b e hb
    by_cases hS : S b
    · obtain ⟨k1, e', k2, k3⟩ := c2 b hS
      rw [hb] at k2
      cases k2
      exact Or.inr ⟨k1, k3⟩
    · exact Or.inl (by rw [h1 b hS]; exact hb)
  have hk : Kf κ h h' := fun b e hb => (he b e hb).imp id (fun z => ⟨(fun w => by rw [z.1] at w; cases w), z.2⟩)
  refine ⟨fun b hb => ?_, fun b hb => ⟨(c2 b hb).1, h2 b hb⟩, c3.kf hk, mo, t0, t1, t2, t3, t4, ?_, c5.kf he, fun z => ⟨(c6 z).1.kf hk, (c6 z).2.kf hk⟩, fun z z' => ⟨(c7 z z').1.kf hk, (c7 z z').2.1.kf hk, (c7 z z').2.2.kf hk⟩⟩
  · by_cases hS : S b
    · obtain ⟨e, k2, -⟩ := h2 b hS
      rw [hb] at k2
      cases k2
    · exact c1 b (by rw [← h1 b hS]; exact hb)
  · rcases he _ _ c4 with z | ⟨-, z⟩
    · exact z
    · cases z
/-- cells that the class leaves alone, over what a method of the class does -/
theorem CI.left {κ : Nat → Option Nat} {V : vT} {S : Nat → Prop} {h h' : xH} {x1 : Nat} {s : AS} (C : CI κ V S h x1 s) (he : Mv h h') : ∀ b, S b → h' b = h b := by
  intro b hb
  obtain ⟨-, c2, -⟩ := C
  obtain ⟨-, e, k2, k3⟩ := c2 b hb
  rw [k2]
  refine he b e k2 (fun hm => ?_)
  rcases e with a | o
  · simp only [srt, mutE] at k3 hm
    omega
  · simp only [srt, mutE] at k3 hm
    omega
/-- a run of a method of the class, so far -/
def RB (κ : Nat → Option Nat) (V : vT) (h0 h : xH) (x1 : Nat) (fs : List Value) : Prop := Mv h0 h ∧ (∀ b, h b = none → h0 b = none) ∧ VK (Gk κ) V h ∧ h x1 = some (.inr (6, fs))
theorem RB.ext {κ : Nat → Option Nat} {V : vT} {h0 h h' : xH} {x1 : Nat} {fs : List Value} (r : RB κ V h0 h x1 fs) (e : Ext h h') : RB κ V h0 h' x1 fs :=
  ⟨r.1.tr e.mv, fun b hb => r.2.1 b (e.none hb), r.2.2.1.ext e, e _ _ r.2.2.2⟩
theorem st_mv {h h' : xH} {x1 : Nat} {fs fs' : List Value} (h1 : h x1 = some (.inr (6, fs))) (e : h' = x_up h x1 (.inr (6, fs'))) : Mv h h' :=
  Mv.off (q := x1) h1 (Or.inr rfl) (fun c hc => by rw [e, x_up_n hc])
theorem RB.set {κ : Nat → Option Nat} {V : vT} {h0 h h' : xH} {x1 : Nat} {fs fs' : List Value} (r : RB κ V h0 h x1 fs) (e : h' = x_up h x1 (.inr (6, fs'))) : RB κ V h0 h' x1 fs' := by
  have m := st_mv r.2.2.2 e
  have hn : ∀ c, c ≠ x1 → h' c = h c := fun c hc => by rw [e, x_up_n hc]
  refine ⟨r.1.tr m, fun b hb => ?_, ?_, by rw [e, x_up_s]⟩
  · by_cases hx : b = x1
    · rw [hx, e, x_up_s] at hb
      cases hb
    · exact r.2.1 b (by rw [← hn b hx]; exact hb)
  · refine r.2.2.1.step (fun q e' hq => ?_) (fun fr y F => ?_)
    · rw [hn q (fun z => by rw [z, r.2.2.2] at hq; cases hq)]
      exact hq
    · refine F.keep (hn fr (fun z => ?_)) m
      obtain ⟨a, b, n, d, lo, w, -⟩ := F
      rw [z, r.2.2.2] at w
      cases w
theorem RB.V {κ : Nat → Option Nat} {V V' : vT} {h0 h : xH} {x1 : Nat} {fs : List Value} (r : RB κ V h0 h x1 fs) (hV : VK (Gk κ) V' h) : RB κ V' h0 h x1 fs := ⟨r.1, r.2.1, hV, r.2.2.2⟩
