/-! ===== THE ABSTRACT HEAP: what every cell holds, by its address; rows that move it (own work over the kit's rows) ===== -/
abbrev xE : Type := (Nat × vp_A) ⊕ (Nat × List Value)
abbrev xH : Type := Nat → Option xE
abbrev xG : Type := va_G × (Nat → ClassId)
def x_e (G : xG) (e : xE) : va_E := match e with
  | .inl a => .inl (G.2 a.1, a.2)
  | .inr o => .inr o
def x_up (h : xH) (a : Nat) (e : xE) : xH := fun b => if b = a then some e else h b
abbrev x_tys (G : xG) : List (ClassId × FieldType) := [(G.2 0, .int), (G.2 1, .long), (G.2 2, .object RX5), (G.2 3, .object RX0), (G.2 4, .object RX2)]
def x_K (G : xG) (U : State) : Prop := va_K G.1 vwCl (x_tys G) U ∧ va_AO RX5 U ∧ va_AO RX0 U ∧ va_AO RX2 U ∧ va_Nw (.castable "[I" "java/lang/Cloneable") U
def x_R (G : xG) (h : xH) (H : Heap) : Prop := ∀ (a : Nat) (e : xE), h a = some e → va_at G.1 vwCl (a, x_e G e) H
def x_A (h : xH) (sz : Nat) : Nat → Prop := fun q => (∃ e, h q = some e) ∨ sz ≤ q
def x_I (G : xG) (A : Nat → Prop) (H0 : Heap) (h : xH) (H : Heap) (locs : List Loc) : Prop :=
  x_R G h H ∧ (∀ (a : Nat) (e : xE), h a = some e → A a) ∧ va_S A H0 H locs ∧ ∀ q : Nat, H0.size ≤ q → A q
theorem x_K.moved {G : xG} {u U : State} (hvm : u.vm.Alike U.vm) (h : x_K G u) : x_K G U := ⟨va_K.moved hvm h.1, h.2.1.moved hvm, h.2.2.1.moved hvm, h.2.2.2.1.moved hvm, va_tabs rfl (rfl : (u.setVm U.vm).vm = U.vm) (by rw [Cond.castable_setVm hvm]; exact h.2.2.2.2)⟩
theorem x_I.start {G : xG} {h : xH} {H : Heap} (hR : x_R G h H) : x_I G (x_A h H.size) H h H [] :=
  ⟨hR, fun _ e he => Or.inl ⟨e, he⟩, va_S.rf, fun _ hq => Or.inr hq⟩
theorem x_I.lt {G : xG} {A : Nat → Prop} {H0 H : Heap} {h : xH} {locs : List Loc} (hI : x_I G A H0 h H locs) {a : Nat} {e : xE} (ha : h a = some e) : a < H.size := (hI.1 a e ha).lt
theorem x_P1 {G : xG} {h : xH} {H : Heap} (hR : x_R G h H) {a : Nat} {e : xE} (ha : h a = some e) : va_P G.1 vwCl [(a, x_e G e)] H := by
  intro k q hk
  match k, hk with
  | 0, hk => cases hk; exact hR a e ha
  | k + 1, hk => simp at hk
theorem x_I.put {G : xG} {A : Nat → Prop} {H0 H H1 : Heap} {h : xH} {locs : List Loc} {a k : Nat} {e e' : xE} (hI : x_I G A H0 h H locs) (ha : h a = some e) (z : H1.size = H.size) (oq : ∀ q : Nat, q ≠ a → H1[q]? = H[q]?) (he : va_at G.1 vwCl (a, x_e G e') H1) : x_I G A H0 (x_up h a e') H1 (locs ++ [⟨a, k⟩]) := by
  refine ⟨fun b eb hb => ?_, fun b eb hb => ?_, hI.2.2.1.put z oq (hI.2.1 a e ha), hI.2.2.2⟩
  · unfold x_up at hb
    by_cases hba : b = a
    · subst hba
      rw [if_pos rfl] at hb
      cases hb
      exact he
    · rw [if_neg hba] at hb
      exact (hI.1 b eb hb).kept (oq b hba)
  · unfold x_up at hb
    by_cases hba : b = a
    · subst hba
      exact hI.2.1 b e ha
    · rw [if_neg hba] at hb
      exact hI.2.1 b eb hb
theorem x_I.new {G : xG} {A : Nat → Prop} {H0 H H1 : Heap} {h : xH} {locs : List Loc} {e' : xE} (hI : x_I G A H0 h H locs) (z : H1.size = H.size + 1) (o1 : ∀ q : Nat, q < H.size → H1[q]? = H[q]?) (he : va_at G.1 vwCl (H.size, x_e G e') H1) : x_I G A H0 (x_up h H.size e') H1 locs := by
  have hS := hI.2.2.1
  refine ⟨fun b eb hb => ?_, fun b eb hb => ?_, ⟨Nat.le_trans hS.1 (by omega), fun x h1 h2 => (o1 x (Nat.lt_of_lt_of_le h1 hS.1)).trans (hS.2.1 x h1 h2), hS.2.2⟩, hI.2.2.2⟩
  · unfold x_up at hb
    by_cases hba : b = H.size
    · subst hba
      rw [if_pos rfl] at hb
      cases hb
      exact he
    · rw [if_neg hba] at hb
      exact (hI.1 b eb hb).kept (o1 b (hI.lt hb))
  · unfold x_up at hb
    by_cases hba : b = H.size
    · subst hba
      exact hI.2.2.2 _ hS.1
    · rw [if_neg hba] at hb
      exact hI.2.1 b eb hb
def x_fresh (h : xH) (q : Nat) : Prop := ∀ (a : Nat) (e : xE), h a = some e → a < q
section XROWS
variable {p : Program} {l : Launch} {e : Env} {R : Room} {s : State} {m : MethodId} {args : Array Value} {below : List Frame} {meth : Method} {c : Code} {H : Heap} {locs : List Loc} {cells slots : Nat} {Q : State → Prop}
variable {cc : ByteArray} {pc : Nat} {ls : Array Slot} {rest : List Value} {G : xG} {A : Nat → Prop} {H0 : Heap} {h : xH} {a : Nat}
theorem x_get (hexec : p.tables.exec = Jvm.exec) (hb : c.code = cc) {own ref C : String} {T : u_T} {N ci index : Nat} {Ts : List Cond} (hts : ∀ w ∈ Ts, w.before args s = true) (hin : ∀ w ∈ u_ws C T N, w ∈ Ts) (hown : s.vm.findClass own = some m.cls) (hK : x_K G s) (hI : x_I G A H0 h H locs) {fs : List Value} (he : h a = some (.inr (ci, fs))) (hc : vwCl[ci]? = some (C, T, N)) (k : Nat) (hk : k < N) (hlink : (Cond.fieldLink own index ref (T k).2.1 (T k).2.2.1).before args s = true) (hsame : ∀ x, s.fieldFound? (T k).1 (T k).2.1 (T k).2.2.1 = some x → s.fieldFound? ref (T k).2.1 (T k).2.2.1 = some x) {v : Value} (hv : fs[k]? = some v) (hdg : decode cc pc = .ok (.getfield index, 3))
    (kk : W p l e R s m args below meth c H locs cells slots Q (F0 m (pc + 3) ls (v :: rest))) : W p l e R s m args below meth c H locs cells slots Q (F0 m pc ls (.ref a :: rest)) :=
  va_get (D := G.1) hexec hb hts hin hown hK.1 (x_P1 hI.1 he) 0 rfl hc k hk hlink hsame hv hdg kk
theorem x_put (hexec : p.tables.exec = Jvm.exec) (hb : c.code = cc) {own ref C : String} {T : u_T} {N ci index : Nat} {Ts : List Cond} (hts : ∀ w ∈ Ts, w.before args s = true) (hin : ∀ w ∈ u_ws C T N, w ∈ Ts) (ty0 : Nat → FieldType) (hty : ∀ k, k < N → parseFieldDescriptor (T k).2.2.1 = some (ty0 k)) (hnm : ∀ a, a < N → ∀ b, b < N → a ≠ b → (T a).2.1 ≠ (T b).2.1) (hown : s.vm.findClass own = some m.cls) (hK : x_K G s) (hI : x_I G A H0 h H locs) {fs : List Value} (he : h a = some (.inr (ci, fs))) (hc : vwCl[ci]? = some (C, T, N)) (k : Nat) (hk : k < N) (hlink : (Cond.fieldLink own index ref (T k).2.1 (T k).2.2.1).before args s = true) (hsame : ∀ x, s.fieldFound? (T k).1 (T k).2.1 (T k).2.2.1 = some x → s.fieldFound? ref (T k).2.1 (T k).2.2.1 = some x) (hfin : (T k).2.2.2 = false) {ty : FieldType} {v : Value} (hd : parseFieldDescriptor (T k).2.2.1 = some ty) (hn : narrow ty v = v) (hfit : fits ty v = true) (hl : k < fs.length)
    (hdg : decode cc pc = .ok (.putfield index, 3)) (kk : ∀ (H1 : Heap) (locs1 : List Loc), x_I G A H0 (x_up h a (.inr (ci, fs.set k v))) H1 locs1 → W p l e R s m args below meth c H1 locs1 cells slots Q (F0 m (pc + 3) ls rest)) : W p l e R s m args below meth c H locs cells slots Q (F0 m pc ls (v :: .ref a :: rest)) := by
  have hap := va_apart (own := own) hts hin ty0 hty hnm hK.1 hc
  obtain ⟨r, h1, cell, q1, q2, q3, q4⟩ := hI.1 a _ he
  have hr : r = (C, T, N) := Option.some.inj (h1.symm.trans hc)
  subst hr
  obtain ⟨hS, hfc, kC, hkC, hkind⟩ := hK.1.1 ci _ hc
  obtain ⟨cf, kf, fi, f, hi, hsl⟩ := hS k hk
  have hlay := hts _ (hin _ (u_in_lay hk))
  unfold u_lay at hlay
  rw [if_neg (by rw [hfin]; decide)] at hlay
  have hst := (u_facts hfc hkC (u_lays hts hin hk) hi).1
  have h6 := u_store hfc hkC hkind hlay hi hd hn hfit
  refine W.putK hexec hb (f := f) ⟨hown, hlink, ⟨_, _, _, hsame _ hi⟩, hst⟩ (by rw [q2]; exact h6) q1 q3 (by rw [hsl]; exact k2_hasslot (q4 k hk)) rfl rfl hdg fun H' e1 e2 e3 => ?_
  rw [hsl] at e1 ⊢
  exact kk H' _ (hI.put he e2 e3 ⟨_, hc, t_OB.to (V := updV (vp_V fs) k v) ⟨_, e1, q2, q3, t_set q4 hap hk v⟩ (fun j _ => vp_updV_set hl v j)⟩)
theorem x_putF (hexec : p.tables.exec = Jvm.exec) (hb : c.code = cc) {own ref C : String} {T : u_T} {N ci index : Nat} {Ts : List Cond} (hts : ∀ w ∈ Ts, w.before args s = true) (hin : ∀ w ∈ u_ws C T N, w ∈ Ts) (ty0 : Nat → FieldType) (hty : ∀ k, k < N → parseFieldDescriptor (T k).2.2.1 = some (ty0 k)) (hnm : ∀ a, a < N → ∀ b, b < N → a ≠ b → (T a).2.1 ≠ (T b).2.1) (hown : s.vm.findClass own = some m.cls) (hK : x_K G s) (hI : x_I G A H0 h H locs) {fs : List Value} (he : h a = some (.inr (ci, fs))) (hc : vwCl[ci]? = some (C, T, N)) (k : Nat) (hk : k < N) (hlink : (Cond.fieldLink own index ref (T k).2.1 (T k).2.2.1).before args s = true) (hsame : ∀ x, s.fieldFound? (T k).1 (T k).2.1 (T k).2.2.1 = some x → s.fieldFound? ref (T k).2.1 (T k).2.2.1 = some x) (hfin : (T k).2.2.2 = true) (hin2 : meth.name = "<init>") (hdecl : (T k).1 = own) {ty : FieldType} {v : Value} (hd : parseFieldDescriptor (T k).2.2.1 = some ty) (hn : narrow ty v = v) (hfit : fits ty v = true) (hl : k < fs.length)
    (hdg : decode cc pc = .ok (.putfield index, 3)) (kk : ∀ (H1 : Heap) (locs1 : List Loc), x_I G A H0 (x_up h a (.inr (ci, fs.set k v))) H1 locs1 → W p l e R s m args below meth c H1 locs1 cells slots Q (F0 m (pc + 3) ls rest)) : W p l e R s m args below meth c H locs cells slots Q (F0 m pc ls (v :: .ref a :: rest)) := by
  have hap := va_apart (own := own) hts hin ty0 hty hnm hK.1 hc
  obtain ⟨r, h1, cell, q1, q2, q3, q4⟩ := hI.1 a _ he
  have hr : r = (C, T, N) := Option.some.inj (h1.symm.trans hc)
  subst hr
  obtain ⟨hS, hfc, kC, hkC, hkind⟩ := hK.1.1 ci _ hc
  obtain ⟨cf, kf, fi, f, hi, hsl⟩ := hS k hk
  have hlay := hts _ (hin _ (u_in_lay hk))
  unfold u_lay at hlay
  rw [if_pos hfin] at hlay
  have hst := (u_facts hfc hkC (u_lays hts hin hk) hi).1
  have hcf : m.cls = cf := by
    obtain ⟨_, _, c', _, _, _, -, -, hf', -, -, -, hown2, -⟩ := Cond.laysFinal_spec hlay
    have e1 : c' = cf := by have := hi.symm.trans hf'; simp at this; exact this.1.symm
    rw [hdecl] at hown2
    rw [← e1]; exact Option.some.inj (hown.symm.trans hown2)
  have h6 := u_fits hfc hkC hkind (Or.inr hlay) hi hd hn hfit
  refine W.putFinK hexec hb hown hlink (hsame _ hi) hst hcf hin2 (by rw [q2]; exact h6) q1 q3 (by rw [hsl]; exact k2_hasslot (q4 k hk)) rfl rfl hdg fun H' e1 e2 e3 => ?_
  rw [hsl] at e1 ⊢
  exact kk H' _ (hI.put he e2 e3 ⟨_, hc, t_OB.to (V := updV (vp_V fs) k v) ⟨_, e1, q2, q3, t_set q4 hap hk v⟩ (fun j _ => vp_updV_set hl v j)⟩)
theorem x_iald (hexec : p.tables.exec = Jvm.exec) (hb : c.code = cc) (hK : x_K G s) (hI : x_I G A H0 h H locs) {n : Nat} {f : Nat → Int32} (ha : h a = some (.inl (0, n, .inl f))) {i : Int32} (hin : vp_in i n) (hdg : decode cc pc = .ok (.iaload, 1))
    (kk : W p l e R s m args below meth c H locs cells slots Q (F0 m (pc + 1) ls (.int (f i.toNatClampNeg) :: rest))) : W p l e R s m args below meth c H locs cells slots Q (F0 m pc ls (.int i :: .ref a :: rest)) :=
  va_iald (D := G.1) (cA := G.2 0) hexec hb hK.1 (x_P1 hI.1 ha) 0 0 rfl rfl hin hdg kk
theorem x_lald (hexec : p.tables.exec = Jvm.exec) (hb : c.code = cc) (hK : x_K G s) (hI : x_I G A H0 h H locs) {n : Nat} {f : Nat → Int64} (ha : h a = some (.inl (1, n, .inr (.inl f)))) {i : Int32} (hin : vp_in i n) (hdg : decode cc pc = .ok (.laload, 1))
    (kk : W p l e R s m args below meth c H locs cells slots Q (F0 m (pc + 1) ls (.long (f i.toNatClampNeg) :: rest))) : W p l e R s m args below meth c H locs cells slots Q (F0 m pc ls (.int i :: .ref a :: rest)) :=
  va_lald (D := G.1) (cA := G.2 1) hexec hb hK.1 (x_P1 hI.1 ha) 0 1 rfl rfl hin hdg kk
theorem x_aald (hexec : p.tables.exec = Jvm.exec) (hb : c.code = cc) (hK : x_K G s) (hI : x_I G A H0 h H locs) {t0 n : Nat} {C : String} {f : Nat → Option Nat} (ha : h a = some (.inl (t0, n, .inr (.inr (.inr (.inr f)))))) (ht : (x_tys G)[t0]? = some (G.2 t0, .object C)) {i : Int32} (hin : vp_in i n) (hdg : decode cc pc = .ok (.aaload, 1))
    (kk : W p l e R s m args below meth c H locs cells slots Q (F0 m (pc + 1) ls (va_rf (f i.toNatClampNeg) :: rest))) : W p l e R s m args below meth c H locs cells slots Q (F0 m pc ls (.int i :: .ref a :: rest)) :=
  va_aldq (D := G.1) (cA := G.2 t0) hexec hb hK.1 (x_P1 hI.1 ha) 0 t0 rfl ht hin hdg kk
theorem x_alen (hexec : p.tables.exec = Jvm.exec) (hb : c.code = cc) (hK : x_K G s) (hI : x_I G A H0 h H locs) {t0 : Nat} {x : vp_A} (ha : h a = some (.inl (t0, x))) {ty : FieldType} (ht : (x_tys G)[t0]? = some (G.2 t0, ty)) (hdg : decode cc pc = .ok (.arraylength, 1))
    (kk : W p l e R s m args below meth c H locs cells slots Q (F0 m (pc + 1) ls (.int (nI x.1) :: rest))) : W p l e R s m args below meth c H locs cells slots Q (F0 m pc ls (.ref a :: rest)) :=
  va_alen (D := G.1) (cA := G.2 t0) hexec hb hK.1 (x_P1 hI.1 ha) 0 t0 rfl ht rfl hdg kk
theorem x_iast (hexec : p.tables.exec = Jvm.exec) (hb : c.code = cc) (hK : x_K G s) (hI : x_I G A H0 h H locs) {n : Nat} {f : Nat → Int32} (ha : h a = some (.inl (0, n, .inl f))) {i x : Int32} (hin : vp_in i n) (hdg : decode cc pc = .ok (.iastore, 1))
    (kk : ∀ (H1 : Heap) (locs1 : List Loc), x_I G A H0 (x_up h a (.inl (0, n, .inl (upd f i.toNatClampNeg x)))) H1 locs1 → W p l e R s m args below meth c H1 locs1 cells slots Q (F0 m (pc + 1) ls rest)) : W p l e R s m args below meth c H locs cells slots Q (F0 m pc ls (.int x :: .int i :: .ref a :: rest)) := by
  refine W.iast hexec hb (hI.1 a _ ha) ((hK.1.2 0 _ rfl).1 n (fun j => .int (f j))) (fun q => by cases q) (by show ¬ (i < 0 ∨ (arrV _ _ _).slots.size ≤ _); rw [arrV_size]; exact hin) rfl rfl hdg fun H1 e z oq => ?_
  refine kk H1 _ (hI.put ha z oq ?_)
  show H1[a]? = some (vp_cell _ _)
  rw [e]
  show some (Cell.setSlot (vp_cell _ _) _ _) = _
  rw [vp_cell_i, vp_cell_i, arrV_store]
  congr 2
  funext q
  by_cases hq : q = i.toNatClampNeg
  · subst hq
    simp [updV, upd]
  · simp [updV, upd, hq]
theorem x_last (hexec : p.tables.exec = Jvm.exec) (hb : c.code = cc) (hK : x_K G s) (hI : x_I G A H0 h H locs) {n : Nat} {f : Nat → Int64} (ha : h a = some (.inl (1, n, .inr (.inl f)))) {i : Int32} {x : Int64} (hin : vp_in i n) (hdg : decode cc pc = .ok (.lastore, 1))
    (kk : ∀ (H1 : Heap) (locs1 : List Loc), x_I G A H0 (x_up h a (.inl (1, n, .inr (.inl (vp_updL f i.toNatClampNeg x))))) H1 locs1 → W p l e R s m args below meth c H1 locs1 cells slots Q (F0 m (pc + 1) ls rest)) : W p l e R s m args below meth c H locs cells slots Q (F0 m pc ls (.long x :: .int i :: .ref a :: rest)) := by
  refine W.last hexec hb (hI.1 a _ ha) ((hK.1.2 1 _ rfl).1 n (fun j => .long (f j))) (fun q => by cases q) (by show ¬ (i < 0 ∨ (arrV _ _ _).slots.size ≤ _); rw [arrV_size]; exact hin) rfl rfl hdg fun H1 e z oq => ?_
  refine kk H1 _ (hI.put ha z oq ?_)
  show H1[a]? = some (vp_cell _ _)
  rw [e]
  show some (Cell.setSlot (vp_cell _ _) _ _) = _
  rw [vp_cell_l, vp_cell_l, arrV_store]
  congr 2
  funext q
  by_cases hq : q = i.toNatClampNeg
  · subst hq
    simp [updV, vp_updL]
  · simp [updV, vp_updL, hq]
theorem x_aast (hexec : p.tables.exec = Jvm.exec) (hb : c.code = cc) (hK : x_K G s) (hI : x_I G A H0 h H locs) {t0 n v ci : Nat} {r : vw_C} {vs : List Value} {f : Nat → Option Nat} (ha : h a = some (.inl (t0, n, .inr (.inr (.inr (.inr f)))))) (ht : (x_tys G)[t0]? = some (G.2 t0, .object r.1)) (hv : h v = some (.inr (ci, vs))) (hc : vwCl[ci]? = some r) {i : Int32} (hin : vp_in i n) (hdg : decode cc pc = .ok (.aastore, 1))
    (kk : ∀ (H1 : Heap) (locs1 : List Loc), x_I G A H0 (x_up h a (.inl (t0, n, .inr (.inr (.inr (.inr (va_up f i.toNatClampNeg (some v)))))))) H1 locs1 → W p l e R s m args below meth c H1 locs1 cells slots Q (F0 m (pc + 1) ls rest)) : W p l e R s m args below meth c H locs cells slots Q (F0 m pc ls (.ref v :: .int i :: .ref a :: rest)) := by
  have hlt : i.toNatClampNeg < n := Nat.not_le.mp fun q => hin (Or.inr q)
  have h0 : ¬ i < 0 := fun q => hin (Or.inl q)
  obtain ⟨r', hr', cellV, g1, g2, g3, -⟩ := hI.1 v _ hv
  have hcls := (hK.1.1 ci r hc).2
  obtain ⟨kA, comp, k1, k2, k3, -⟩ := (hK.1.2 t0 _ ht).2
  have hcomp : comp = G.1.1 ci := Option.some.inj (k3.symm.trans hcls.1)
  subst hcomp
  obtain ⟨kC, hkC, -⟩ := hcls.2
  refine W.aast hexec hb (hI.1 a _ ha) (fun q h => by cases h) (fun h => by cases h) k1 k2 rfl hkC ⟨h0, by show _ < (arrV _ _ _).slots.size; rw [arrV_size]; exact hlt⟩ g1 (fun q h => by rw [g3] at h; cases h) (by rw [g2]; exact hkC) (by rw [g2]; exact va_assign hcls) rfl rfl hdg fun H1 e z oq => ?_
  refine kk H1 _ (hI.put ha z oq ?_)
  show H1[a]? = some (vp_cell _ _)
  rw [e]
  show some (Cell.setSlot (vp_cell _ _) _ _) = _
  rw [vp_cell_q, vp_cell_q, arrV_store]
  congr 2
  funext q
  by_cases hq : q = i.toNatClampNeg
  · subst hq
    simp [updV, va_up, va_rf]
  · simp [updV, va_up, hq]
theorem x_new {own C : String} {T : u_T} {N ci index : Nat} {Ts : List Cond} (hexec : p.tables.exec = Jvm.exec) (hb : c.code = cc) (hts : ∀ w ∈ Ts, w.before args s = true) (hin : ∀ w ∈ u_ws C T N, w ∈ Ts) (ty : Nat → FieldType) (hty : ∀ k, k < N → parseFieldDescriptor (T k).2.2.1 = some (ty k)) (hown : s.vm.findClass own = some m.cls) (hcl : (Cond.classLink own index C).before args s = true) (hinst : (Cond.instantiable C N).before args s = true) (hini : (Cond.initialized C).before args s = true)
    (hK : x_K G s) (hI : x_I G A H0 h H locs) (hc : vwCl[ci]? = some (C, T, N)) {fs : List Value} (hfs : ∀ j, j < N → defaultValue (ty j) = vp_V fs j) (hcells : cells + 1 ≤ R.cells) (hslots : slots + N ≤ R.slots) (hdg : decode cc pc = .ok (.new index, 3))
    (kk : ∀ (q : Nat) (H1 : Heap), x_fresh h q → x_I G A H0 (x_up h q (.inr (ci, fs))) H1 locs → W p l e R s m args below meth c H1 locs (cells + 1) (slots + N) Q (F0 m (pc + 3) ls (.ref q :: rest))) : W p l e R s m args below meth c H locs cells slots Q (F0 m pc ls rest) := by
  have hKn := hK.1.1 ci _ hc
  refine W.newcK hexec hb hown hcl hinst hini rfl hdg hcells hslots hKn.2.1 rfl fun H1 kC hkC e1 z1 o1 => ?_
  refine kk H.size H1 (fun a e he => hI.lt he) (hI.new z1 o1 ?_)
  refine ⟨_, hc, ?_⟩
  exact t_OB.to (u_born ty hts hin hKn hkC e1 hty) (fun j hj => hfs j hj)
theorem x_newi (hexec : p.tables.exec = Jvm.exec) (hb : c.code = cc) (harr : (Cond.arrayClass .int).before args s = true) (hK : x_K G s) (hI : x_I G A H0 h H locs)
    {n : Int32} {N : Nat} (hn : ¬ n < 0) (hN : n.toNatClampNeg = N) (hbytes : N * 4 ≤ 536870912) (hcells : cells + 1 ≤ R.cells) (hslots : slots + N ≤ R.slots) (hdg : decode cc pc = .ok (.newarray .int, 2))
    (kk : ∀ (q : Nat) (H1 : Heap), x_fresh h q → x_I G A H0 (x_up h q (.inl (0, N, .inl (fun _ => 0)))) H1 locs → W p l e R s m args below meth c H1 locs (cells + 1) (slots + N) Q (F0 m (pc + 2) ls (.ref q :: rest))) : W p l e R s m args below meth c H locs cells slots Q (F0 m pc ls (.int n :: rest)) := by
  have hb2 : N * componentBytes (newarray.typeOf .int) ≤ 536870912 := by
    rw [show componentBytes (newarray.typeOf .int) = 4 from rfl]
    exact hbytes
  refine va_newaK (atype := .int) hexec hb harr rfl hdg rfl hn hN hb2 hcells hslots rfl fun H1 cA e1 z1 o1 hAr hNm => ?_
  have hc0 : cA = G.2 0 := Option.some.inj (hNm.symm.trans (hK.1.2 0 _ rfl).2)
  subst hc0
  exact kk H.size H1 (fun a e he => hI.lt he) (hI.new z1 o1 e1)
theorem x_newl (hexec : p.tables.exec = Jvm.exec) (hb : c.code = cc) (harr : (Cond.arrayClass .long).before args s = true) (hK : x_K G s) (hI : x_I G A H0 h H locs)
    {n : Int32} {N : Nat} (hn : ¬ n < 0) (hN : n.toNatClampNeg = N) (hbytes : N * 8 ≤ 536870912) (hcells : cells + 1 ≤ R.cells) (hslots : slots + N ≤ R.slots) (hdg : decode cc pc = .ok (.newarray .long, 2))
    (kk : ∀ (q : Nat) (H1 : Heap), x_fresh h q → x_I G A H0 (x_up h q (.inl (1, N, .inr (.inl (fun _ => 0))))) H1 locs → W p l e R s m args below meth c H1 locs (cells + 1) (slots + N) Q (F0 m (pc + 2) ls (.ref q :: rest))) : W p l e R s m args below meth c H locs cells slots Q (F0 m pc ls (.int n :: rest)) := by
  have hb2 : N * componentBytes (newarray.typeOf .long) ≤ 536870912 := by
    rw [show componentBytes (newarray.typeOf .long) = 8 from rfl]
    exact hbytes
  refine va_newaK (atype := .long) hexec hb harr rfl hdg rfl hn hN hb2 hcells hslots rfl fun H1 cA e1 z1 o1 hAr hNm => ?_
  have hc0 : cA = G.2 1 := Option.some.inj (hNm.symm.trans (hK.1.2 1 _ rfl).2)
  subst hc0
  exact kk H.size H1 (fun a e he => hI.lt he) (hI.new z1 o1 e1)
theorem x_newq (hexec : p.tables.exec = Jvm.exec) (hb : c.code = cc) {own C : String} {index t0 : Nat} (hown : s.vm.findClass own = some m.cls) (hclink : (Cond.classLink own index C).before args s = true) (hover : va_AO C s) (hK : x_K G s) (hI : x_I G A H0 h H locs) (ht : (x_tys G)[t0]? = some (G.2 t0, .object C))
    {n : Int32} {N : Nat} (hn : ¬ n < 0) (hN : n.toNatClampNeg = N) (hbytes : N * 4 ≤ 536870912) (hcells : cells + 1 ≤ R.cells) (hslots : slots + N ≤ R.slots) (hdg : decode cc pc = .ok (.anewarray index, 3))
    (kk : ∀ (q : Nat) (H1 : Heap), x_fresh h q → x_I G A H0 (x_up h q (.inl (t0, N, .inr (.inr (.inr (.inr (fun _ => none))))))) H1 locs → W p l e R s m args below meth c H1 locs (cells + 1) (slots + N) Q (F0 m (pc + 3) ls (.ref q :: rest))) : W p l e R s m args below meth c H locs cells slots Q (F0 m pc ls (.int n :: rest)) := by
  subst hN
  refine W.anew hexec hb hown hclink (va_AO.use hover) rfl hdg rfl hn hbytes hcells hslots fun cA kA comp f1 f2 f3 f4 => ?_
  generalize hH1 : H.push ({ cls := cA, slots := Array.replicate n.toNatClampNeg .null, vm := .none } : Cell) = H1
  have z1 : H1.size = H.size + 1 := by rw [← hH1, Array.size_push]
  have e1 : H1[H.size]? = some (arrV cA n.toNatClampNeg (fun _ => .null)) := by rw [← hH1, Array.getElem?_push_size, ← arrV_new]
  have o1 : ∀ q : Nat, q < H.size → H1[q]? = H[q]? := fun q hq => by rw [← hH1, Array.getElem?_push, if_neg (Nat.ne_of_lt hq)]
  obtain ⟨kA', comp', -, -, -, k4⟩ := (hK.1.2 t0 _ ht).2
  have hc0 : cA = G.2 t0 := Option.some.inj (f1.symm.trans k4)
  subst hc0
  exact kk H.size H1 (fun a e he => hI.lt he) (hI.new z1 o1 e1)
end XROWS

/-! ===== contracts over the abstract heap, calls, returns ===== -/
def x_Pc (G : xG) (av : List Value) (h : xH) (sz : Nat) : Array Value → State → Prop := va_Pc av (fun U => U.heap.size = sz ∧ x_R G h U.heap ∧ x_K G U)
def x_B (G : xG) (h : xH) (sz : Nat) (h' : xH) (t : State) : Prop := x_R G h' t.heap ∧ ∀ (a : Nat) (e : xE), h' a = some e → x_A h sz a
abbrev x_Qi (G : xG) (h : xH) (sz : Nat) (post : Int32 → xH → Prop) : Array Value → State → Outcome → State → Prop := va_Qi (S := xH) post (x_B G h sz) (x_A h sz)
abbrev x_Ql (G : xG) (h : xH) (sz : Nat) (post : Int64 → xH → Prop) : Array Value → State → Outcome → State → Prop := va_Ql (S := xH) post (x_B G h sz) (x_A h sz)
abbrev x_Qv (G : xG) (h : xH) (sz : Nat) (post : xH → Prop) : Array Value → State → Outcome → State → Prop := va_Qv (S := xH) post (x_B G h sz) (x_A h sz)
abbrev x_Qr (G : xG) (h : xH) (sz : Nat) (post : Nat → xH → Prop) : Array Value → State → Outcome → State → Prop := va_Qr (S := xH) (fun _ => True) (fun h' a t => post a h' ∧ x_B G h sz h' t) (x_A h sz)
theorem x_blind {G : xG} {av : List Value} {h : xH} {sz : Nat} : FrameBlind (x_Pc G av h sz) := fun a U g mk z => ⟨z.1, z.2.1, z.2.2.1, x_K.moved (u := U) (U := U.calling g mk a) (Vm.Alike.refl U.vm) z.2.2.2⟩
theorem x_sub {G : xG} {A : Nat → Prop} {H0 H : Heap} {h : xH} {locs : List Loc} (hI : x_I G A H0 h H locs) : ∀ q, x_A h H.size q → A q := by
  intro q hq
  rcases hq with ⟨e, he⟩ | hq
  · exact hI.2.1 q e he
  · exact hI.2.2.2 q (Nat.le_trans hI.2.2.1.1 hq)
theorem x_back {G : xG} {A : Nat → Prop} {H0 H H1 : Heap} {h h' : xH} {locs locs1 : List Loc} {t : State} (hI : x_I G A H0 h H locs) (ht : t.heap = H1) (hB : x_B G h H.size h' t) (hS : va_S A H0 H1 locs1) : x_I G A H0 h' H1 locs1 :=
  ⟨by rw [← ht]; exact hB.1, fun a e he => x_sub hI a (hB.2 a e he), hS, hI.2.2.2⟩
theorem x_pre {G : xG} {A : Nat → Prop} {H0 H : Heap} {h : xH} {locs : List Loc} {s : State} {av : List Value} (hI : x_I G A H0 h H locs) (hK : x_K G s) : ∀ U : State, U.heap = H → s.WarmedH U.vm → x_Pc G av h H.size av.toArray U :=
  fun U hU hW => ⟨rfl, by rw [hU], by rw [hU]; exact hI.1, hK.moved hW.alike⟩
theorem x_recv {G : xG} {A : Nat → Prop} {H0 H : Heap} {h : xH} {locs : List Loc} {s : State} {b ci : Nat} {fs : List Value} {q : vw_C} {C : String} (hI : x_I G A H0 h H locs) (hK : x_K G s) (hb : h b = some (.inr (ci, fs))) (hc : vwCl[ci]? = some q) (hq : q.1 = C) : ∃ cell : Cell, H[b]? = some cell ∧ cell.vm.isStatics = false ∧ s.vm.findClass C = some cell.cls := by
  subst hq
  exact va_recv hK.1 (x_P1 hI.1 hb) hc (q0 := 0) rfl
section XCALLS
variable {p : Program} {l : Launch} {e : Env} {R : Room} {s : State} {m : MethodId} {args : Array Value} {below : List Frame} {meth : Method} {c : Code} {H : Heap} {locs : List Loc} {cells slots : Nat} {Q : State → Prop}
variable {cc : ByteArray} {pc : Nat} {ls : Array Slot} {rest st0 : List Value} {G : xG} {A : Nat → Prop} {H0 : Heap} {h : xH} {a : Array Value} {mc ms : Nat}
theorem x_ci {post : Int32 → xH → Prop} (hr : va_Run p l e R s m args below meth c H locs cells slots mc ms (F0 m pc ls st0) rest (x_Qi G h H.size post a) (x_A h H.size)) (hI : x_I G A H0 h H locs)
    (kk : ∀ (r : Int32) (h' : xH) (H1 : Heap) (locs1 : List Loc), post r h' → x_I G A H0 h' H1 locs1 → W p l e R s m args below meth c H1 locs1 (cells + mc) (slots + ms) Q (F0 m (pc + 3) ls (.int r :: rest))) : W p l e R s m args below meth c H locs cells slots Q (F0 m pc ls st0) :=
  va_calli hr hI.2.2.1 (fun q _ hq => x_sub hI q hq) (x_sub hI) (fun r u t H1 locs1 ht _ hw hB _ _ hS => kk r u H1 locs1 hw (x_back hI ht hB hS))
theorem x_cl {post : Int64 → xH → Prop} (hr : va_Run p l e R s m args below meth c H locs cells slots mc ms (F0 m pc ls st0) rest (x_Ql G h H.size post a) (x_A h H.size)) (hI : x_I G A H0 h H locs)
    (kk : ∀ (r : Int64) (h' : xH) (H1 : Heap) (locs1 : List Loc), post r h' → x_I G A H0 h' H1 locs1 → W p l e R s m args below meth c H1 locs1 (cells + mc) (slots + ms) Q (F0 m (pc + 3) ls (.long r :: rest))) : W p l e R s m args below meth c H locs cells slots Q (F0 m pc ls st0) :=
  va_calll hr hI.2.2.1 (fun q _ hq => x_sub hI q hq) (x_sub hI) (fun r u t H1 locs1 ht _ hw hB _ _ hS => kk r u H1 locs1 hw (x_back hI ht hB hS))
theorem x_cv {post : xH → Prop} (hr : va_Run p l e R s m args below meth c H locs cells slots mc ms (F0 m pc ls st0) rest (x_Qv G h H.size post a) (x_A h H.size)) (hI : x_I G A H0 h H locs)
    (kk : ∀ (h' : xH) (H1 : Heap) (locs1 : List Loc), post h' → x_I G A H0 h' H1 locs1 → W p l e R s m args below meth c H1 locs1 (cells + mc) (slots + ms) Q (F0 m (pc + 3) ls rest)) : W p l e R s m args below meth c H locs cells slots Q (F0 m pc ls st0) :=
  va_callv hr hI.2.2.1 (fun q _ hq => x_sub hI q hq) (x_sub hI) (fun u t H1 locs1 ht _ hw hB _ _ hS => kk u H1 locs1 hw (x_back hI ht hB hS))
theorem x_cr {post : Nat → xH → Prop} (hr : va_Run p l e R s m args below meth c H locs cells slots mc ms (F0 m pc ls st0) rest (x_Qr G h H.size post a) (x_A h H.size)) (hI : x_I G A H0 h H locs)
    (kk : ∀ (r : Nat) (h' : xH) (H1 : Heap) (locs1 : List Loc), post r h' → x_I G A H0 h' H1 locs1 → W p l e R s m args below meth c H1 locs1 (cells + mc) (slots + ms) Q (F0 m (pc + 3) ls (.ref r :: rest))) : W p l e R s m args below meth c H locs cells slots Q (F0 m pc ls st0) :=
  va_callr hr hI.2.2.1 (fun q _ hq => x_sub hI q hq) (x_sub hI) (fun u ra t H1 locs1 ht _ _ hB _ _ hS => kk ra u H1 locs1 hB.1 (x_back hI ht hB.2 hS))
variable {h0 : xH}
theorem x_iret {post : Int32 → xH → Prop} {v : Int32} (hexec : p.tables.exec = Jvm.exec) (hb : c.code = cc) (hr : meth.sig.returnType = some .int) (hlocks : meth.locks = false) (hI : x_I G (x_A h0 s.heap.size) s.heap h H locs) (hp : post v h) (hc : cells ≤ mc) (hs : slots ≤ ms) (hdg : decode cc pc = .ok (.ireturn, 1)) :
    W p l e R s m args below meth c H locs cells slots (MQ below (x_Qi G h0 s.heap.size post) args s mc ms (x_A h0 s.heap.size)) (F0 m pc ls [.int v]) :=
  W.widen hc hs (W.iret hexec hb hr (fun t ht hW => ⟨⟨v, h, rfl, hp, by rw [ht]; exact hI.1, hI.2.1⟩, hI.2.2.1.F ht⟩) hI.2.2.1.2.2 hdg hlocks)
theorem x_zret {post : Int32 → xH → Prop} {v : Int32} (hexec : p.tables.exec = Jvm.exec) (hb : c.code = cc) (hr : meth.sig.returnType = some .boolean) (hn : narrow .boolean (.int v) = .int v) (hlocks : meth.locks = false) (hI : x_I G (x_A h0 s.heap.size) s.heap h H locs) (hp : post v h) (hc : cells ≤ mc) (hs : slots ≤ ms) (hdg : decode cc pc = .ok (.ireturn, 1)) :
    W p l e R s m args below meth c H locs cells slots (MQ below (x_Qi G h0 s.heap.size post) args s mc ms (x_A h0 s.heap.size)) (F0 m pc ls [.int v]) :=
  W.widen hc hs (W.zret hexec hb hr hn (fun t ht hW => ⟨⟨v, h, rfl, hp, by rw [ht]; exact hI.1, hI.2.1⟩, hI.2.2.1.F ht⟩) hI.2.2.1.2.2 hdg hlocks)
theorem x_lret {post : Int64 → xH → Prop} {v : Int64} (hexec : p.tables.exec = Jvm.exec) (hb : c.code = cc) (hr : meth.sig.returnType = some .long) (hlocks : meth.locks = false) (hI : x_I G (x_A h0 s.heap.size) s.heap h H locs) (hp : post v h) (hc : cells ≤ mc) (hs : slots ≤ ms) (hdg : decode cc pc = .ok (.lreturn, 1)) :
    W p l e R s m args below meth c H locs cells slots (MQ below (x_Ql G h0 s.heap.size post) args s mc ms (x_A h0 s.heap.size)) (F0 m pc ls [.long v]) :=
  W.widen hc hs (W.lret hexec hb hr (fun t ht hW => ⟨⟨v, h, rfl, hp, by rw [ht]; exact hI.1, hI.2.1⟩, hI.2.2.1.F ht⟩) hI.2.2.1.2.2 hdg hlocks)
theorem x_vret {post : xH → Prop} (hexec : p.tables.exec = Jvm.exec) (hb : c.code = cc) (hr : meth.sig.returnType = none) (hlocks : meth.locks = false) (hI : x_I G (x_A h0 s.heap.size) s.heap h H locs) (hp : post h) (hc : cells ≤ mc) (hs : slots ≤ ms) (hdg : decode cc pc = .ok (.return_, 1)) :
    W p l e R s m args below meth c H locs cells slots (MQ below (x_Qv G h0 s.heap.size post) args s mc ms (x_A h0 s.heap.size)) (F0 m pc ls []) :=
  W.widen hc hs (W.vret hexec hb hr (fun t ht hW => ⟨⟨h, rfl, hp, by rw [ht]; exact hI.1, hI.2.1⟩, hI.2.2.1.F ht⟩) hI.2.2.1.2.2 hdg hlocks)
theorem x_aret {post : Nat → xH → Prop} {v : Nat} {rt : FieldType} (hexec : p.tables.exec = Jvm.exec) (hb : c.code = cc) (hr : meth.sig.returnType = some rt) (hrt : (∃ n, rt = .object n) ∨ ∃ t, rt = .array t) (hlocks : meth.locks = false) (hI : x_I G (x_A h0 s.heap.size) s.heap h H locs) (hp : post v h) (hc : cells ≤ mc) (hs : slots ≤ ms) (hdg : decode cc pc = .ok (.areturn, 1)) :
    W p l e R s m args below meth c H locs cells slots (MQ below (x_Qr G h0 s.heap.size post) args s mc ms (x_A h0 s.heap.size)) (F0 m pc ls [.ref v]) :=
  W.widen hc hs (W.aret (v := .ref v) hexec hb hr hrt (Or.inr ⟨v, rfl⟩) (fun t ht hW => ⟨⟨h, v, rfl, trivial, hp, by rw [ht]; exact hI.1, hI.2.1⟩, hI.2.2.1.F ht⟩) hI.2.2.1.2.2 hdg hlocks)
end XCALLS
/-- what stays the same through a method's walk -/
def CX (p : Program) (s : State) (m : MethodId) (args : Array Value) (meth : Method) (c : Code) (G : xG) (own : String) (cc : ByteArray) (nL : Nat) (ret : Option FieldType) : Prop :=
  p.tables.exec = Jvm.exec ∧ c.code = cc ∧ meth.sig.returnType = ret ∧ c.maxLocals = nL ∧ s.vm.findClass own = some m.cls ∧ (∀ w ∈ lg, w.before args s = true) ∧ meth.locks = false ∧ x_K G s
