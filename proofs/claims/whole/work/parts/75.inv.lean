/-! ===== both sides together (own work) ===== -/
def AS.okb (s : AS) : Prop := 1 ≤ s.n ∧ s.n ≤ 2 ∧ s.ss ≤ 24 ∧ s.sd ≤ 1 ∧ s.p ≤ 4 ∧ s.m ≤ 3 ∧ (∀ x, x < 40 → (s.an x).natAbs ≤ 20 ∧ 1 ≤ s.ad x ∧ s.ad x ≤ 20) ∧ (s.an 5 = s.an 6 ∧ s.ad 5 = s.ad 6 ∧ s.an 17 = s.an 18 ∧ s.ad 17 = s.ad 18) ∧ (s.sd = 1 → psdn s.n s.P)
theorem CI.ok {κ : Nat → Option Nat} {V : vT} {S : Nat → Prop} {h : xH} {x1 : Nat} {s : AS} (C : CI κ V S h x1 s) (o : s.okb) : s.ok := by
  obtain ⟨o1, o2, o3, o4, o5, o6, o7, o8, o9⟩ := o
  refine ⟨o1, o2, o3, o4, o5, o6, o7, o8, fun h1 => ?_⟩
  obtain ⟨c1, c2, c3, mo, t0, t1, t2, t3, t4, c4, c5, c6, c7⟩ := C
  obtain ⟨d1, d2⟩ := c6 h1
  obtain ⟨q1, e1⟩ := d1.tq
  obtain ⟨q2, e2⟩ := d2.tq
  refine ⟨?_, e2.rp, o9 h1⟩
  have := e1.rp
  rw [Nat.mul_one] at this
  exact this
theorem okb_begin {s : AS} {n : Nat} (o : s.okb) (n1 : 1 ≤ n) (n2 : n ≤ 2) : (sBegin s n).okb := by
  obtain ⟨o1, o2, o3, o4, o5, o6, o7, o8, o9⟩ := o
  refine ⟨n1, n2, o3, Nat.zero_le _, Nat.zero_le _, Nat.zero_le _, fun x hx => ⟨?_, Nat.le_refl _, (by show (1 : Nat) ≤ 20; decide)⟩, ⟨?_, rfl, ?_, rfl⟩, fun z => absurd (show (0 : Nat) = 1 from z) (by decide)⟩
  · show (an0 n x).natAbs ≤ 20
    unfold an0
    split <;> decide
  · show an0 n 5 = an0 n 6
    unfold an0
    rw [if_neg (by omega), if_neg (by omega)]
  · show an0 n 17 = an0 n 18
    unfold an0
    rw [if_neg (by omega), if_neg (by omega)]
theorem putM_b {α : Type} {f : Nat → α} {k i j : Nat} {v : α} {B : α → Prop} (h : ∀ x, x < 40 → B (f x)) (hv : B v) : ∀ x, x < 40 → B (putM f k i j v x) := by
  intro x hx
  unfold putM
  by_cases hk : k = 1 ∨ k = 4
  · rw [if_pos hk]
    by_cases e1 : x = 4 * k + 2 * j + i
    · rw [e1, va_up_self]
      exact hv
    · rw [va_up_ne _ _ e1]
      by_cases e2 : x = 4 * k + 2 * i + j
      · rw [e2, va_up_self]
        exact hv
      · rw [va_up_ne _ _ e2]
        exact h x hx
  · rw [if_neg hk]
    by_cases e2 : x = 4 * k + 2 * i + j
    · rw [e2, va_up_self]
      exact hv
    · rw [va_up_ne _ _ e2]
      exact h x hx
theorem putM_sym {α : Type} {f : Nat → α} {k i j : Nat} {v : α} (hi : i < 2) (hj : j < 2) (h5 : f 5 = f 6) (h17 : f 17 = f 18) : putM f k i j v 5 = putM f k i j v 6 ∧ putM f k i j v 17 = putM f k i j v 18 := by
  unfold putM
  by_cases hk : k = 1 ∨ k = 4
  · rw [if_pos hk]
    rcases hk with rfl | rfl
    · obtain rfl | rfl : i = 0 ∨ i = 1 := by omega
      · obtain rfl | rfl : j = 0 ∨ j = 1 := by omega
        · exact ⟨h5, h17⟩
        · exact ⟨rfl, h17⟩
      · obtain rfl | rfl : j = 0 ∨ j = 1 := by omega
        · exact ⟨rfl, h17⟩
        · exact ⟨h5, h17⟩
    · obtain rfl | rfl : i = 0 ∨ i = 1 := by omega
      · obtain rfl | rfl : j = 0 ∨ j = 1 := by omega
        · exact ⟨h5, h17⟩
        · exact ⟨h5, rfl⟩
      · obtain rfl | rfl : j = 0 ∨ j = 1 := by omega
        · exact ⟨h5, rfl⟩
        · exact ⟨h5, h17⟩
  · rw [if_neg hk]
    rw [va_up_ne _ _ (by omega), va_up_ne _ _ (by omega), va_up_ne _ _ (by omega), va_up_ne _ _ (by omega)]
    exact ⟨h5, h17⟩
theorem okb_set {s : AS} {k i j b : Nat} {a : Int} (o : s.okb) (hi : i < 2) (hj : j < 2) (ha : a.natAbs ≤ 20) (hb1 : 1 ≤ b) (hb : b ≤ 20) : (sSet s k i j a b).okb := by
  obtain ⟨o1, o2, o3, o4, o5, o6, o7, ⟨p1, p2, p3, p4⟩, o9⟩ := o
  obtain ⟨s1, s2⟩ := putM_sym (k := k) (v := a) hi hj p1 p3
  obtain ⟨s3, s4⟩ := putM_sym (k := k) (v := b) hi hj p2 p4
  refine ⟨o1, o2, o3, o4, o5, o6, fun x hx => ⟨putM_b (B := fun z : Int => z.natAbs ≤ 20) (fun y hy => (o7 y hy).1) ha x hx, putM_b (B := fun z : Nat => 1 ≤ z) (fun y hy => (o7 y hy).2.1) hb1 x hx, putM_b (B := fun z : Nat => z ≤ 20) (fun y hy => (o7 y hy).2.2) hb x hx⟩, ⟨s1, s3, s2, s4⟩, o9⟩
theorem okb_start {s : AS} (o : s.okb) (hf : fitP s.n 1 s.an s.ad) (h24 : s.ss < 24) : (sStart s).okb := by
  obtain ⟨o1, o2, o3, o4, o5, o6, o7, ⟨p1, p2, p3, p4⟩, o9⟩ := o
  exact ⟨o1, o2, h24, Nat.le_refl _, Nat.zero_le _, Nat.zero_le _, o7, ⟨p1, p2, p3, p4⟩, fun _ => psd_fit (k := 1) o1 o2 hf (fun x hx => (o7 _ (by omega)).2.1) p1 p2⟩
theorem okb_pred {s : AS} (o : s.okb) (sd1 : s.sd = 1) (hf : fitP s.n 4 s.an s.ad) (h4 : s.p < 4) : (sPred s).okb := by
  obtain ⟨o1, o2, o3, o4, o5, o6, o7, ⟨p1, p2, p3, p4⟩, o9⟩ := o
  exact ⟨o1, o2, o3, o4, h4, o6, o7, ⟨p1, p2, p3, p4⟩, fun _ => psd_predict o1 o2 (o9 sd1) (psd_fit (k := 4) o1 o2 hf (fun x hx => (o7 _ (by omega)).2.1) p3 p4)⟩
theorem okb_meas {s : AS} {y : Rat} (o : s.okb) (sd1 : s.sd = 1) (hf : fitP 1 6 s.an s.ad) (h3 : s.m < 3) (hs : sv s.H s.P s.R s.n ≠ 0) : (sMeas s y).okb := by
  obtain ⟨o1, o2, o3, o4, o5, o6, o7, ⟨p1, p2, p3, p4⟩, o9⟩ := o
  exact ⟨o1, o2, o3, o4, o5, h3, o7, ⟨p1, p2, p3, p4⟩, fun _ => psd_measure o1 o2 (o9 sd1) (rq_nn0 hf.1) hs⟩
/-- the reference's side -/
def RI (h : xH) (q : Nat → Nat) (th : Int32) (s : AS) : Prop := ap7 q ∧ ∃ ab be pi le sg wo Q, R7 h q th (nI s.n) (nI s.sd) (nI s.ss) (nI s.p) (nI s.m) ab be pi le sg wo ∧ MD ab be s.an s.ad ∧ FS pi le sg Q ∧ RQ s Q
theorem RI.keep {h h' : xH} {q : Nat → Nat} {th : Int32} {s : AS} (R : RI h q th s) (hk : ∀ b, A7 q b → h' b = h b) : RI h' q th s := by
  obtain ⟨r0, ab, be, pi, le, sg, wo, Q, ⟨r1, r2, r3, r4, r5, r6, r7⟩, r8⟩ := R
  have e : ∀ k, k < 7 → h' (q k) = h (q k) := fun k hk' => hk _ ⟨k, hk', rfl⟩
  exact ⟨r0, ab, be, pi, le, sg, wo, Q, ⟨(e 0 (by decide)).trans r1, (e 1 (by decide)).trans r2, (e 2 (by decide)).trans r3, (e 3 (by decide)).trans r4, (e 4 (by decide)).trans r5, (e 5 (by decide)).trans r6, (e 6 (by decide)).trans r7⟩, r8⟩
theorem R7.srt {h : xH} {q : Nat → Nat} {th sz sd ss pr me : Int32} {ab be pi le sg wo : Nat → Int32} (R : R7 h q th sz sd ss pr me ab be pi le sg wo) : ∀ b, A7 q b → ∃ e, h b = some e ∧ srt e := by
  obtain ⟨r1, r2, r3, r4, r5, r6, r7⟩ := R
  rintro b ⟨k, hk, rfl⟩
  match k, hk with
  | 0, _ => exact ⟨_, r1, rfl⟩
  | 1, _ => exact ⟨_, r2, Or.inl rfl⟩
  | 2, _ => exact ⟨_, r3, Or.inl rfl⟩
  | 3, _ => exact ⟨_, r4, Or.inl rfl⟩
  | 4, _ => exact ⟨_, r5, Or.inl rfl⟩
  | 5, _ => exact ⟨_, r6, Or.inl rfl⟩
  | 6, _ => exact ⟨_, r7, Or.inl rfl⟩
abbrev Sx (q : Nat → Nat) (x3 : Nat) : Nat → Prop := fun b => A7 q b ∨ b = x3
/-- the class in state s, the reference in state t, the out array holds f -/
def MID (κ : Nat → Option Nat) (V : vT) (q : Nat → Nat) (h : xH) (x1 x3 : Nat) (f : Nat → Int64) (th : Int32) (s t : AS) : Prop :=
  CI κ V (Sx q x3) h x1 s ∧ RI h q th t ∧ h x3 = some (.inl (1, 1, .inr (.inl f))) ∧ ¬ A7 q x3
def INV (h : xH) (x1 x2 x3 : Nat) (s : AS) : Prop := ∃ κ V q f th, MID κ V q h x1 x3 f th s s ∧ s.okb ∧ x2 = q 0
/-- a method of the class has run -/
theorem MID.cls {κ κ' : Nat → Option Nat} {V V' : vT} {q : Nat → Nat} {h h' : xH} {x1 x3 : Nat} {f : Nat → Int64} {th : Int32} {s s' t : AS} (M : MID κ V q h x1 x3 f th s t) (C : CI κ' V' (Sx q x3) h' x1 s') (hl : ∀ b, Sx q x3 b → h' b = h b) : MID κ' V' q h' x1 x3 f th s' t := by
  obtain ⟨m1, m2, m3, m4⟩ := M
  exact ⟨C, m2.keep (fun b hb => hl b (Or.inl hb)), (hl x3 (Or.inr rfl)).trans m3, m4⟩
theorem MID.out {κ : Nat → Option Nat} {V : vT} {q : Nat → Nat} {h h' : xH} {x1 x3 : Nat} {f f' : Nat → Int64} {th : Int32} {s t : AS} (M : MID κ V q h x1 x3 f th s t) (e : h' = x_up h x3 (.inl (1, 1, .inr (.inl f')))) : MID κ V q h' x1 x3 f' th s t := by
  obtain ⟨m1, m2, m3, m4⟩ := M
  have hn : ∀ b, b ≠ x3 → h' b = h b := fun b hb => by rw [e, x_up_n hb]
  have hx : h' x3 = some (.inl (1, 1, .inr (.inl f'))) := by rw [e, x_up_s]
  refine ⟨m1.off (fun b hb => hn b (fun z => hb (Or.inr z))) (fun b hb => ?_), m2.keep (fun b hb => hn b (fun z => m4 (z ▸ hb))), hx, m4⟩
  by_cases hb3 : b = x3
  · subst hb3
    exact ⟨_, hx, Or.inr rfl⟩
  · rw [hn b hb3]
    exact (m1.2.1 b hb).2
/-- a method of the reference has run -/
theorem MID.ref {κ : Nat → Option Nat} {V : vT} {q : Nat → Nat} {h h' : xH} {x1 x3 : Nat} {f : Nat → Int64} {th th' : Int32} {s t t' : AS} {ab be pi le sg wo : Nat → Int32} {Q : Nat → Option Rat} {sz sd ss pr me : Int32} (M : MID κ V q h x1 x3 f th s t) (hk : ∀ b, ¬ A7 q b → h' b = h b) (R : R7 h' q th' sz sd ss pr me ab be pi le sg wo) (e1 : sz = nI t'.n) (e2 : sd = nI t'.sd) (e3 : ss = nI t'.ss) (e4 : pr = nI t'.p) (e5 : me = nI t'.m) (hM : MD ab be t'.an t'.ad) (hF : FS pi le sg Q) (hQ : RQ t' Q) : MID κ V q h' x1 x3 f th' s t' := by
  obtain ⟨m1, m2, m3, m4⟩ := M
  subst e1 e2 e3 e4 e5
  refine ⟨m1.off (fun b hb => hk b (fun z => hb (Or.inl z))) (fun b hb => ?_), ⟨m2.1, ab, be, pi, le, sg, wo, Q, R, hM, hF, hQ⟩, (hk x3 m4).trans m3, m4⟩
  rcases hb with hb | hb
  · exact R.srt b hb
  · subst hb
    exact ⟨_, (hk _ m4).trans m3, Or.inr rfl⟩
theorem MID.thrown {κ : Nat → Option Nat} {V : vT} {q : Nat → Nat} {h : xH} {x1 x2 x3 : Nat} {f : Nat → Int64} {th : Int32} {s t : AS} {post : Int32 → xH → Prop} (M : MID κ V q h x1 x3 f th s t) (e : x2 = q 0) (k : ∀ h', MID κ V q h' x1 x3 f th s t → post th h') : ∃ fs : List Value, h x2 = some (.inr (7, fs)) ∧ wp_A7_thrown h x2 post := by
  obtain ⟨r0, ab, be, pi, le, sg, wo, Q, R, r1, r2, r3⟩ := M.2.1
  refine ⟨_, by rw [e]; exact R.1, q, _, _, _, _, _, _, _, _, _, _, _, _, e, r0, R, fun h1 hk R1 => k h1 ?_⟩
  exact M.ref hk R1 rfl rfl rfl rfl rfl r1 r2 r3
def pot (s : AS) : Nat := (24 - s.ss) * 147500 + (if s.sd = 1 then (4 - s.p) * 11000 + (3 - s.m) * 34500 else 0)
