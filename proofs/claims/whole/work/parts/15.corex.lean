/-! ===== exceptions over the abstract heap (own work over the kit's rows) ===== -/
abbrev EIA : String := "java/lang/IllegalArgumentException"
abbrev EIS : String := "java/lang/IllegalStateException"
abbrev EAR : String := "java/lang/ArithmeticException"
abbrev ESup : List String := ["java/lang/RuntimeException", "java/lang/Exception"]
def x_N (U : State) : Prop := va_Nw (.declares ⟨"java/lang/RuntimeException", "<init>", "()V"⟩) U ∧ va_Nw (.declares ⟨"java/lang/Exception", "<init>", "()V"⟩) U ∧ va_Nw (.declares ⟨"java/lang/Throwable", "<init>", "()V"⟩) U ∧ va_Nw (.castable EIA EIA) U ∧ va_Nw (.castable EIS EIS) U ∧ va_Nw (.castable EAR EAR) U
theorem x_N.moved {u U : State} (hvm : u.vm.Alike U.vm) (h : x_N u) : x_N U := by
  obtain ⟨h1, h2, h3, h4, h5, h6⟩ := h
  have d : ∀ {x : MethodName}, va_Nw (.declares x) u → va_Nw (.declares x) U := fun hZ => va_tabs rfl (rfl : (u.setVm U.vm).vm = U.vm) (by rw [Cond.declares_setVm hvm]; exact hZ)
  have k : ∀ {x y : String}, va_Nw (.castable x y) u → va_Nw (.castable x y) U := fun hZ => va_tabs rfl (rfl : (u.setVm U.vm).vm = U.vm) (by rw [Cond.castable_setVm hvm]; exact hZ)
  exact ⟨d h1, d h2, d h3, k h4, k h5, k h6⟩
def x_Z (h : xH) (U : State) : Prop := vx_Zq Bundle.tN "UNASSIGNED_STACK" Bundle.steD (x_A h U.heap.size) U U.heap ∧ vx_Zq Bundle.tN "SUPPRESSED_SENTINEL" Bundle.listD (x_A h U.heap.size) U U.heap ∧ x_N U
def x_Px (G : xG) (av : List Value) (h : xH) (sz : Nat) : Array Value → State → Prop := va_Pc av (fun U => U.heap.size = sz ∧ x_R G h U.heap ∧ x_K G U ∧ x_Z h U)
theorem x_blindx {G : xG} {av : List Value} {h : xH} {sz : Nat} : FrameBlind (x_Px G av h sz) := fun a U g mk z => ⟨z.1, z.2.1, z.2.2.1, x_K.moved (u := U) (U := U.calling g mk a) (Vm.Alike.refl U.vm) z.2.2.2.1, vx_Zq.moved (u := U) (U := U.calling g mk a) (Vm.Alike.refl U.vm) z.2.2.2.2.1, vx_Zq.moved (u := U) (U := U.calling g mk a) (Vm.Alike.refl U.vm) z.2.2.2.2.2.1, x_N.moved (u := U) (U := U.calling g mk a) (Vm.Alike.refl U.vm) z.2.2.2.2.2.2⟩
theorem x_prex {G : xG} {H : Heap} {h0 h : xH} {locs : List Loc} {s : State} {av : List Value} (hI : x_I G (x_A h0 s.heap.size) s.heap h H locs) (hK : x_K G s) (hZ : x_Z h0 s) : ∀ U : State, U.heap = H → s.WarmedH U.vm → x_Px G av h H.size av.toArray U := by
  intro U hU hW
  have z : ∀ {n d : String}, vx_Zq Bundle.tN n d (x_A h0 s.heap.size) s s.heap → vx_Zq Bundle.tN n d (x_A h U.heap.size) U U.heap := by
    intro n d hz
    rw [hU]
    exact vx_Zq.moved hW.alike (vx_Zq.narrow (vx_Zq.kept hz hI.2.2.1.2.1) (x_sub hI))
  exact ⟨rfl, by rw [hU], by rw [hU]; exact hI.1, hK.moved hW.alike, z hZ.1, z hZ.2.1, hZ.2.2.moved hW.alike⟩
abbrev x_X (G : xG) (h : xH) (sz : Nat) (px : String → xH → Prop) : String → State → State → Prop := vx_X (S := xH) (fun _ => True) (fun E u t => px E u ∧ x_B G h sz u t) (x_A h sz)
section XTHROW
variable {p : Program} {l : Launch} {e : Env} {R : Room} {s : State} {m : MethodId} {args : Array Value} {below : List Frame} {meth : Method} {c : Code} {H : Heap} {locs : List Loc} {cells slots : Nat}
variable {cc : ByteArray} {pc : Nat} {ls : Array Slot} {rest st0 : List Value} {G : xG} {h0 h : xH} {a : Array Value} {mc ms MC MS : Nat} {Qc : Array Value → State → Outcome → State → Prop} {px : String → xH → Prop}
theorem vx_callr {Q : State → Prop} {A0 A1 : Nat → Prop} {H0 : Heap} {free : Addr → Prop} {S SX : Type} {post : S → Prop} {pX : SX → Prop} {B : S → Nat → State → Prop} {BX : String → SX → State → Prop} {AX : Nat → Prop} (hr : vx_Run p l e R s m args below meth c H locs cells slots mc ms (F0 m pc ls st0) rest (va_Qr post B A1 a) (vx_X pX BX AX) free) (hS : va_S A0 H0 H locs) (hA : ∀ q, q < H.size → A1 q → A0 q) (hf : ∀ q, free q → A0 q) (hAX : ∀ q, q < H.size → AX q → A0 q)
    (kx : ∀ (E : String) (ce : Cell) (q9 : Addr) (u : SX) (t : State) (H1 : Heap) (locs1 : List Loc), t.heap = H1 → s.vm.Alike t.vm → pX u → BX E u t → H.size ≤ H1.size → (∀ q : Nat, q < H.size → ¬ AX q → H1[q]? = H[q]?) → va_S A0 H0 H1 locs1 → H1[q9]? = some ce → ce.vm = .none → s.vm.findClass E = some ce.cls → vx_W p l e R s m args below meth c H1 locs1 (cells + mc) (slots + ms) Q (F0 m pc ls rest) q9)
    (kk : ∀ (u : S) (ra : Nat) (t : State) (H1 : Heap) (locs1 : List Loc), t.heap = H1 → s.vm.Alike t.vm → post u → B u ra t → H.size ≤ H1.size → (∀ q : Nat, q < H.size → ¬ A1 q → H1[q]? = H[q]?) → va_S A0 H0 H1 locs1 → W p l e R s m args below meth c H1 locs1 (cells + mc) (slots + ms) Q (F0 m (pc + 3) ls (.ref ra :: rest))) : W p l e R s m args below meth c H locs cells slots Q (F0 m pc ls st0) := by
  intro T hT X
  rcases hr T hT X with ⟨v, st₀, t, T', L, h0, X', hL, e1, e2, ⟨⟨u, ra, hv, hp, hb⟩, hF⟩, st⟩ | ⟨q, st₀, t, T', L, E, ce, h0, X', hL, e1, e2, ⟨u, hp, hb, hF⟩, hce, hcv, hcl, st⟩
  · cases hv
    obtain ⟨k1, k2, k3⟩ := vx_keep h0 e1 hS hA hf hL hF
    obtain ⟨t2, a1, b1⟩ := kk u ra t T'.heap (locs ++ L) e1.symm (by rw [← e2]; exact X'.warmed.alike) hp hb k1 k2 k3 T' rfl X'
    exact ⟨t2, st t2 a1, b1⟩
  · obtain ⟨k1, k2, k3⟩ := vx_keep h0 e1 hS hAX hf hL hF
    obtain ⟨t2, a1, b1⟩ := kx E ce q u t T'.heap (locs ++ L) e1.symm (by rw [← e2]; exact X'.warmed.alike) hp hb k1 k2 k3 (by rw [e1]; exact hce) hcv hcl T' rfl X'
    exact ⟨t2, st.trans a1, b1⟩
/-- a call that may throw, not caught here -/
theorem x_tr {post : Nat → xH → Prop} {pxc : String → xH → Prop} (hr : vx_Run p l e R s m args below meth c H locs cells slots mc ms (F0 m pc ls st0) rest (x_Qr G h H.size post a) (x_X G h H.size pxc) (x_A h H.size)) (hI : x_I G (x_A h0 s.heap.size) s.heap h H locs) (hno : ∀ x ∈ c.exceptionTable.toList, False) (hlocks : meth.locks = false) (hc : cells + mc ≤ MC) (hs : slots + ms ≤ MS) (hpx : ∀ E u, pxc E u → px E u)
    (kk : ∀ (r : Nat) (h' : xH) (H1 : Heap) (locs1 : List Loc), post r h' → x_I G (x_A h0 s.heap.size) s.heap h' H1 locs1 → W p l e R s m args below meth c H1 locs1 (cells + mc) (slots + ms) (vx_MQ below Qc (x_X G h0 s.heap.size px) args s MC MS (x_A h0 s.heap.size)) (F0 m (pc + 3) ls (.ref r :: rest))) : W p l e R s m args below meth c H locs cells slots (vx_MQ below Qc (x_X G h0 s.heap.size px) args s MC MS (x_A h0 s.heap.size)) (F0 m pc ls st0) :=
  vx_callr hr hI.2.2.1 (fun q _ hq => x_sub hI q hq) (x_sub hI) (fun q _ hq => x_sub hI q hq)
    (fun E ce q9 u t H1 locs1 ht _ _ hB _ _ hS hce hv hcl => vx_out (fun x hx => (hno x hx).elim) hlocks hce hv hcl (fun t' ht' _ => ⟨u, trivial, ⟨hpx E u hB.1, by rw [ht', ← ht]; exact hB.2.1, fun b eb he => x_sub hI b (hB.2.2 b eb he)⟩, hS.F ht'⟩) hS.2.2 hc hs)
    (fun u ra t H1 locs1 ht _ _ hB _ _ hS => kk ra u H1 locs1 hB.1 (x_back hI ht hB.2 hS))
/-- throw new E() -/
theorem x_thr {own cls : String} {ik ic : Nat} (hexec : p.tables.exec = Jvm.exec) (hb : c.code = cc) (hl : l.stackTraces = false) (hown : s.vm.findClass own = some m.cls) (hcls : Bundle.fit cls = true)
    (hk : (Cond.classLink own ik cls).before args s = true) (hini : (Cond.initialized cls).before args s = true) (hat : ∀ w ∈ vx_at0 own ic cls ESup, w.before args s = true) (hgood : ∀ w ∈ Cond.classLink own ik cls :: Cond.initialized cls :: vx_at0 own ic cls ESup, vx_ot w = true)
    (hZ : x_Z h0 s) (hI : x_I G (x_A h0 s.heap.size) s.heap h H locs) (hsize : ls.size = c.maxLocals) (d0 : decode cc pc = .ok (.new ik, 3)) (d3 : decode cc (pc + 3) = .ok (.dup, 1)) (d4 : decode cc (pc + 4) = .ok (.invokespecial ic, 3)) (d7 : decode cc (pc + 7) = .ok (.athrow, 1))
    (hno : ∀ x ∈ c.exceptionTable.toList, False) (hRf : 5 < R.frames) (hRl : 81 ≤ R.locals) (hRc : cells + 1 ≤ R.cells) (hRs : slots + 6 ≤ R.slots) (hlocks : meth.locks = false) (hp : px cls h) (hc : cells + 1 ≤ MC) (hs : slots + 6 ≤ MS) :
    W p l e R s m args below meth c H locs cells slots (vx_MQ below Qc (x_X G h0 s.heap.size px) args s MC MS (x_A h0 s.heap.size)) (F0 m pc ls []) := by
  refine vx_throw0 (names := ESup) (A := x_A h0 s.heap.size) hexec hb hl hown hcls (by decide +kernel) hk hini hat hgood hZ.1 hZ.2.1 hI.2.2.1 hsize d0 d3 d4 d7 (fun x hx => (hno x hx).elim) hRf hRl hRc hRs hlocks (fun t _ hz hq => ?_) hI.2.2.1.2.2 hc hs
  refine ⟨h, trivial, ⟨hp, fun b eb he => (hI.1 b eb he).kept (hq b (hI.lt he)), hI.2.1⟩, Nat.le_trans hI.2.2.1.1 hz, fun q h1 h2 => ?_⟩
  rw [hq q (Nat.lt_of_lt_of_le h1 hI.2.2.1.1)]
  exact hI.2.2.1.2.1 q h1 h2
end XTHROW
def CXT (p : Program) (l : Launch) (s : State) (m : MethodId) (args : Array Value) (meth : Method) (c : Code) (G : xG) (own : String) (cc : ByteArray) (nL : Nat) (ret : Option FieldType) (h0 : xH) : Prop :=
  CX p s m args meth c G own cc nL ret ∧ (∀ x ∈ c.exceptionTable.toList, False) ∧ x_Z h0 s ∧ l.stackTraces = false
/-! the words of the class's throws -/
theorem x_at {own cls : String} {ic : Nat} {args : Array Value} {s : State} (hg : ∀ w ∈ lg, w.before args s = true) (hN : x_N s) (h1 : ∀ w ∈ (vx_at0 own ic cls ESup).filter goodWord, w ∈ lg) (h2 : ∀ w ∈ (vx_at0 own ic cls ESup).filter (fun w => !goodWord w), w ∈ [Cond.declares ⟨"java/lang/RuntimeException", "<init>", "()V"⟩, .declares ⟨"java/lang/Exception", "<init>", "()V"⟩, .declares ⟨"java/lang/Throwable", "<init>", "()V"⟩, .castable EIA EIA, .castable EIS EIS, .castable EAR EAR]) : ∀ w ∈ vx_at0 own ic cls ESup, w.before args s = true := by
  refine vx_hat (fun w hw => hg w (h1 w hw)) h2 ?_
  obtain ⟨n1, n2, n3, n4, n5, n6⟩ := hN
  exact vx_c (va_Nw.use rfl n1) (vx_c (va_Nw.use rfl n2) (vx_c (va_Nw.use rfl n3) (vx_c (va_Nw.use rfl n4) (vx_c (va_Nw.use rfl n5) (vx_c (va_Nw.use rfl n6) vx_n)))))
set_option maxRecDepth 100000 in
set_option maxHeartbeats 4000000 in
theorem at_42a : ∀ w ∈ (vx_at0 RX6 42 EIA ESup).filter goodWord, w ∈ lg := by decide +kernel
set_option maxRecDepth 100000 in
set_option maxHeartbeats 4000000 in
theorem at_42b : ∀ w ∈ (vx_at0 RX6 42 EIA ESup).filter (fun w => !goodWord w), w ∈ [Cond.declares ⟨"java/lang/RuntimeException", "<init>", "()V"⟩, .declares ⟨"java/lang/Exception", "<init>", "()V"⟩, .declares ⟨"java/lang/Throwable", "<init>", "()V"⟩, .castable EIA EIA, .castable EIS EIS, .castable EAR EAR] := by decide +kernel
set_option maxRecDepth 100000 in
set_option maxHeartbeats 4000000 in
theorem at_42c : ∀ w ∈ Cond.classLink RX6 40 EIA :: Cond.initialized EIA :: vx_at0 RX6 42 EIA ESup, vx_ot w = true := by decide +kernel
set_option maxRecDepth 100000 in
set_option maxHeartbeats 4000000 in
theorem at_75a : ∀ w ∈ (vx_at0 RX6 75 EIS ESup).filter goodWord, w ∈ lg := by decide +kernel
set_option maxRecDepth 100000 in
set_option maxHeartbeats 4000000 in
theorem at_75b : ∀ w ∈ (vx_at0 RX6 75 EIS ESup).filter (fun w => !goodWord w), w ∈ [Cond.declares ⟨"java/lang/RuntimeException", "<init>", "()V"⟩, .declares ⟨"java/lang/Exception", "<init>", "()V"⟩, .declares ⟨"java/lang/Throwable", "<init>", "()V"⟩, .castable EIA EIA, .castable EIS EIS, .castable EAR EAR] := by decide +kernel
set_option maxRecDepth 100000 in
set_option maxHeartbeats 4000000 in
theorem at_75c : ∀ w ∈ Cond.classLink RX6 73 EIS :: Cond.initialized EIS :: vx_at0 RX6 75 EIS ESup, vx_ot w = true := by decide +kernel
set_option maxRecDepth 100000 in
set_option maxHeartbeats 4000000 in
theorem at_97a : ∀ w ∈ (vx_at0 RX6 97 EAR ESup).filter goodWord, w ∈ lg := by decide +kernel
set_option maxRecDepth 100000 in
set_option maxHeartbeats 4000000 in
theorem at_97b : ∀ w ∈ (vx_at0 RX6 97 EAR ESup).filter (fun w => !goodWord w), w ∈ [Cond.declares ⟨"java/lang/RuntimeException", "<init>", "()V"⟩, .declares ⟨"java/lang/Exception", "<init>", "()V"⟩, .declares ⟨"java/lang/Throwable", "<init>", "()V"⟩, .castable EIA EIA, .castable EIS EIS, .castable EAR EAR] := by decide +kernel
set_option maxRecDepth 100000 in
set_option maxHeartbeats 4000000 in
theorem at_97c : ∀ w ∈ Cond.classLink RX6 95 EAR :: Cond.initialized EAR :: vx_at0 RX6 97 EAR ESup, vx_ot w = true := by decide +kernel
set_option maxRecDepth 100000 in
set_option maxHeartbeats 4000000 in
theorem at_links : ∀ w ∈ [Cond.classLink RX6 40 EIA, .initialized EIA, .classLink RX6 73 EIS, .initialized EIS, .classLink RX6 95 EAR, .initialized EAR], w ∈ lg := by decide +kernel
