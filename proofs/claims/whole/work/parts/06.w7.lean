/-! ===== THE WORLD OF ExactFilterModel: the object and its six arrays (own work) ===== -/
abbrev w7 (cI : ClassId) (q : Nat → Nat) (th sz sd ss pr me : Int32) (ab be pi le sg wo : Nat → Int32) : va_W :=
  [(q 0, .inr (7, [.int th, .int sz, .ref (q 1), .ref (q 2), .int sd, .int ss, .int pr, .int me, .ref (q 3), .ref (q 4), .ref (q 5), .ref (q 6)])),
   (q 1, .inl (cI, 40, .inl ab)), (q 2, .inl (cI, 40, .inl be)), (q 3, .inl (cI, 96000, .inl pi)), (q 4, .inl (cI, 64, .inl le)), (q 5, .inl (cI, 24, .inl sg)), (q 6, .inl (cI, 3010, .inl wo))]
def A7 (q : Nat → Nat) : Nat → Prop := fun a => ∃ k : Nat, k < 7 ∧ a = q k
def ap7 (q : Nat → Nat) : Prop := ∀ i j : Nat, i < 7 → j < 7 → q i = q j → i = j
def K7 (D : va_G) (cI : ClassId) (q : Nat → Nat) (U : State) : Prop := va_K D vwCl [(cI, .int)] U ∧ ap7 q
def C7 (p : Program) (s : State) (m : MethodId) (args : Array Value) (meth : Method) (c : Code) (D : va_G) (cI : ClassId) (q : Nat → Nat) (cc : ByteArray) (nL : Nat) (ret : Option FieldType) : Prop :=
  p.tables.exec = Jvm.exec ∧ c.code = cc ∧ meth.sig.returnType = ret ∧ c.maxLocals = nL ∧ s.vm.findClass RX7 = some m.cls ∧ (∀ w ∈ lg, w.before args s = true) ∧ meth.locks = false ∧ va_K D vwCl [(cI, .int)] s ∧ ap7 q
theorem w7_q {cI : ClassId} {q : Nat → Nat} {th sz sd ss pr me : Int32} {ab be pi le sg wo : Nat → Int32} {k : Nat} {x : Nat × va_E} (h : (w7 cI q th sz sd ss pr me ab be pi le sg wo)[k]? = some x) : k < 7 ∧ x.1 = q k := by
  match k, h with
  | 0, h => cases h; exact ⟨by decide, rfl⟩
  | 1, h => cases h; exact ⟨by decide, rfl⟩
  | 2, h => cases h; exact ⟨by decide, rfl⟩
  | 3, h => cases h; exact ⟨by decide, rfl⟩
  | 4, h => cases h; exact ⟨by decide, rfl⟩
  | 5, h => cases h; exact ⟨by decide, rfl⟩
  | 6, h => cases h; exact ⟨by decide, rfl⟩
  | k + 7, h => simp [w7] at h
theorem D7 {cI : ClassId} {q : Nat → Nat} {th sz sd ss pr me : Int32} {ab be pi le sg wo : Nat → Int32} (h : ap7 q) : va_D (A7 q) (w7 cI q th sz sd ss pr me ab be pi le sg wo) := by
  refine ⟨fun i j x y hi hj hxy => ?_, fun k x hk => ?_⟩
  · obtain ⟨h1, h2⟩ := w7_q hi
    obtain ⟨h3, h4⟩ := w7_q hj
    exact h i j h1 h3 (by rw [← h2, ← h4]; exact hxy)
  · obtain ⟨h1, h2⟩ := w7_q hk
    exact ⟨k, h1, h2⟩
theorem pre7V {s : State} {H : Heap} {D : va_G} {cI : ClassId} {q : Nat → Nat} {th sz sd ss pr me : Int32} {ab be pi le sg wo : Nat → Int32} (hP : va_P D vwCl (w7 cI q th sz sd ss pr me ab be pi le sg wo) H) (hK : va_K D vwCl [(cI, .int)] s) (hap : ap7 q) (av : List Value) :
    PreV s H RX7 (q 0) (va_Pc (.ref (q 0) :: av) (fun U => va_P D vwCl (w7 cI q th sz sd ss pr me ab be pi le sg wo) U.heap ∧ K7 D cI q U)) av :=
  ⟨fun a U g mk z => ⟨z.1, z.2.1, va_K.moved (u := U) (U := U.calling g mk a) (Vm.Alike.refl U.vm) z.2.2.1, hap⟩, va_recv hK hP (ci := 7) (q0 := 0) rfl rfl, fun U hU hW => ⟨rfl, by rw [hU]; exact hP, va_K.moved hW.alike hK, hap⟩⟩
theorem pre7S {s : State} {H : Heap} {av : List Value} : PreS s H (va_Pc av (fun _ => True)) av := ⟨fun _ _ _ _ z => z, fun _ _ _ => ⟨rfl, trivial⟩⟩
