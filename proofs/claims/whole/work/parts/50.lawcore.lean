/-! ===== the law's body over the abstract heap: what it needs (own work over the kit's rows) ===== -/
def hN : xH := fun _ => none
def CL (p : Program) (l : Launch) (s : State) (m : MethodId) (meth : Method) (c : Code) (G : xG) (b L : Nat) (xs : Nat → Int32) : Prop :=
  p.tables.exec = Jvm.exec ∧ c.code = cL_law ∧ meth.sig.returnType = some .boolean ∧ c.maxLocals = 8 ∧ s.vm.findClass RL = some m.cls ∧ (∀ w ∈ lg, w.before #[Value.ref b] s = true) ∧ meth.locks = false ∧ x_K G s ∧ x_Z hN s ∧ x_C s ∧ l.stackTraces = false ∧ va_X b L xs s s.heap ∧ b < s.heap.size ∧ ¬ x_A hN s.heap.size b
theorem x_prew {G : xG} {H : Heap} {h0 h : xH} {locs : List Loc} {s : State} {av : List Value} (hI : x_I G (x_A h0 s.heap.size) s.heap h H locs) (hK : x_K G s) (hZ : x_Z h0 s) (hC : x_C s) : ∀ U : State, U.heap = H → s.WarmedH U.vm → x_Pw G av h H.size av.toArray U := by
  intro U hU hW
  have q := x_prex (av := av) hI hK hZ U hU hW
  exact ⟨q.1, q.2.1, q.2.2.1, q.2.2.2.1, q.2.2.2.2, hC.moved hW.alike⟩
theorem x_gSW {own : String} {idx n : Nat} {y : MethodName} {cc : ByteArray} {ret : Option FieldType} {hh : List (Nat × Nat × Nat × Nat)} (h1 : Cond.methodLink own idx y ∈ lg) (h2 : Cond.static y ∈ lg) (h4 : Cond.initialized y.cls ∈ lg) (h5 : Cond.codeWith y cc n ret hh ∈ lg) : GoodIn lg (va_wsS own idx y (Cond.codeWith y cc n ret hh :: lg)) :=
  gi_cons h1 (gi_cons h2 (gi_cons h4 (gi_cons h5 gi_lg)))
set_option maxRecDepth 100000 in
set_option maxHeartbeats 4000000 in
theorem at_cw : ∀ w ∈ [Cond.codeWith yL_begin cL_begin 3 (some .int) [(0, 5, 8, 13)], .codeWith yL_set cL_set 7 (some .int) [(0, 11, 14, 13)], .codeWith yL_start cL_start 2 (some .int) [(0, 4, 7, 22)], .codeWith yL_predict cL_predict 3 (some .int) [(0, 8, 11, 22)], .codeWith yL_measure cL_measure 5 (some .int) [(0, 10, 13, 13), (0, 10, 17, 22), (0, 10, 21, 32)], .codeWith yL_sign cL_sign 6 (some .int) [(0, 12, 15, 22), (0, 12, 19, 13)], .codeWith yL_pieces cL_pieces 7 (some .int) [(0, 14, 17, 22), (0, 14, 21, 13)], .codeWith yL_piece cL_piece 8 (some .int) [(0, 16, 19, 22), (0, 16, 23, 13)], .codeWith yL_scaled cL_scaled 7 (some .int) [(0, 13, 16, 22), (0, 13, 20, 13)], .codeWith yL_compare cL_compare 8 (some .int) [(0, 16, 19, 22), (0, 16, 23, 13)]], w ∈ lg := by decide +kernel
theorem law_end {p : Program} {l : Launch} {e : Env} {s : State} {m : MethodId} {below : List Frame} {meth : Method} {c : Code} {G : xG} {b : Nat} {h : xH} {H : Heap} {locs : List Loc} {nc ns pc : Nat} {ls : Array Slot} (hx : p.tables.exec = Jvm.exec) (hb : c.code = cL_law) (hr : meth.sig.returnType = some .boolean) (hlocks : meth.locks = false) (hI : x_I G (x_A hN s.heap.size) s.heap h H locs) (hc : nc ≤ 950342) (hs : ns ≤ 6245077) (hdg : decode cL_law pc = .ok (.ireturn, 1)) :
    W p l e room_1 s m #[Value.ref b] below meth c H locs nc ns (lw_Z below #[Value.ref b] s) (F0 m pc ls [.int 1]) := by
  refine va_forget (fun q hq => ?_) (W.widen hc hs (lw_ret hx hb hr hlocks hdg))
  rcases hI.2.2.1.2.2 q hq with ⟨e9, h9⟩ | h9
  · cases h9
  · exact h9
