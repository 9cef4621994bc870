section XL
variable {p : Program} {l : Launch} {e : Env} {s : State} {m : MethodId} {args : Array Value} {below : List Frame} {meth : Method} {c : Code} {G : xG}

-- ===== law: begin
abbrev rL_begin (mc ms : Nat) : Room := { frames := 7, cells := mc, slots := ms, locals := 102 }
def wp_L_begin (h0 : xH) (mc ms : Nat) (x0 : Nat) (x1 : Int32) (post : Int32 → xH → Prop) : Prop := ∃ fs : List Value, h0 x0 = some (.inr (6, fs)) ∧ wp_X6_begin h0 mc ms x0 x1 (fun h => post 0 h) (fun E h => (E = EIA ∧ post 1 h))
set_option maxHeartbeats 4000000 in
set_option maxRecDepth 100000 in
theorem m_L_begin (l : Launch) (hst : l.stackTraces = false) (G : xG) (h0 : xH) (mc ms : Nat) (x0 : Nat) (x1 : Int32) (post : Int32 → xH → Prop) (hw : wp_L_begin h0 mc ms x0 x1 post) (sz : Nat) : Met l yL_begin (Cond.codeWith yL_begin cL_begin 3 (some .int) [(0, 5, 8, 13)] :: lg) (rL_begin mc ms) (x_Pw G [.ref x0, .int x1] h0 sz) (x_Qi G h0 sz post) mc ms (x_A h0 sz) := by
  refine x_ofWH (cc := cL_begin) (maxL := 3) (ret := some .int) (hh := [(0, 5, 8, 13)]) (by decide) rfl ?_
  intro p e s m args below meth c s₁ B hml hv
  obtain ⟨rfl, hsz, hR, hK, hZ, hC⟩ := hv
  subst hsz
  have hws : ∀ w ∈ Cond.codeWith yL_begin cL_begin 3 (some .int) [(0, 5, 8, 13)] :: lg, w.before _ s = true := atoms_spec (ws := Cond.codeWith yL_begin cL_begin 3 (some .int) [(0, 5, 8, 13)] :: lg) B.pre
  have htab : c.exceptionTable.toList = tableOf [(0, 5, 8, 13)] := vx_table (x := yX6_begin) B (hws _ List.mem_cons_self)
  have hg : ∀ w ∈ lg, w.before _ s = true := fun w hw => hws w (List.mem_cons_of_mem _ hw)
  have hx := B.exec
  have hb := B.bytes
  have hr := B.returns
  have hown := findClass_of_methodNamed B.named
  have hlocks := B.notSynchronized
  have hI : x_I G (x_A h0 s.heap.size) s.heap h0 s.heap [] := x_I.start hR
  have hl := lv_entry ([.ref x0, .int x1]) (n := 3) (Nat.le_of_ble_eq_true rfl)
  rw [lg_entry_eq]
  generalize (lg_sl ([.ref x0, .int x1]) ++ List.replicate (3 - (lg_sl ([.ref x0, .int x1])).length) Slot.unset).toArray = ls at hl ⊢
  have hl : lv_has ls 3 [(0, .ref x0), (1, .int x1)] := hl
  refine lv_aload_n hx hb dL_begin_0 rfl (lv_at hl 0 rfl) ?_
  refine lv_iload_n hx hb dL_begin_1 rfl (lv_at hl 1 rfl) ?_
  obtain ⟨fs, he, hw⟩ := hw
  refine vx_callv (vx_runV (As := [.int x1]) (rest := []) ⟨hx, hb, hml, hown, hg⟩ (m_X6_begin l hst G h0 mc ms x0 x1 _ _ hw s.heap.size) (cwV 1 hg (x_gV km_L_7 ki_X6_begin kz_X6_X6_begin kn_X6 kk_X6_begin) rfl rfl rfl (by decide +kernel) ⟨Nat.le_of_ble_eq_true rfl, Nat.le_of_ble_eq_true rfl⟩) ⟨x_blindx, x_recv hI hK he rfl rfl, x_prex hI hK hZ⟩ rfl rfl hl.1 rfl (lv_room (Nat.le_of_ble_eq_true rfl)) dL_begin_2 ⟨show 0 + mc ≤ mc by omega, show 0 + ms ≤ ms by omega⟩) hI.2.2.1 (fun q _ hq => x_sub hI q hq) (x_sub hI) (fun q _ hq => x_sub hI q hq) (fun E ce q9 h H H1 locs ht _ _ hB _ _ hS hce hv hcl => ?_) (fun h t H locs ht _ hw hB _ _ hS => ?_)
  · have hI := x_back hI ht hB.2 hS
    obtain ⟨hE, hw⟩ := hB.1
    subst hE
    refine vx_catch hown [] (⟨0, 5, 8, 13⟩ : ExceptionTableEntry) [] (htab.trans rfl) (fun z hz => absurd hz (by simp)) rfl (by decide) (hg _ (at_cl _ (by decide +kernel))) (va_Nw.use rfl hZ.2.2.2.2.2.1) hce hv hcl ?_
    refine lv_astore_n (lv' := [(2, .ref q9), (0, .ref x0), (1, .int x1)]) hx hb dL_begin_8 rfl hl (by decide) rfl (fun ls hl => ?_)
    refine lv_iconst (v := 1) hx hb dL_begin_9 (by decide) ?_
    exact x_iret hx hb hr hlocks hI hw (show 0 + mc ≤ mc by omega) (show 0 + ms ≤ ms by omega) dL_begin_10
  · have hI := x_back hI ht hB hS
    refine lv_goto (tgt := 11) hx hb dL_begin_5 (by decide) ?_
    refine lv_iconst (v := 0) hx hb dL_begin_11 (by decide) ?_
    exact x_iret hx hb hr hlocks hI hw (show 0 + mc ≤ mc by omega) (show 0 + ms ≤ ms by omega) dL_begin_12
-- ===== law: set
abbrev rL_set (mc ms : Nat) : Room := { frames := 7, cells := mc, slots := ms, locals := 106 }
def wp_L_set (h0 : xH) (mc ms : Nat) (x0 : Nat) (x1 : Int32) (x2 : Int32) (x3 : Int32) (x4 : Int32) (x5 : Int32) (post : Int32 → xH → Prop) : Prop := ∃ fs : List Value, h0 x0 = some (.inr (6, fs)) ∧ wp_X6_set h0 mc ms x0 x1 x2 x3 x4 x5 (fun h => post 0 h) (fun E h => (E = EIA ∧ post 1 h))
set_option maxHeartbeats 4000000 in
set_option maxRecDepth 100000 in
theorem m_L_set (l : Launch) (hst : l.stackTraces = false) (G : xG) (h0 : xH) (mc ms : Nat) (x0 : Nat) (x1 : Int32) (x2 : Int32) (x3 : Int32) (x4 : Int32) (x5 : Int32) (post : Int32 → xH → Prop) (hw : wp_L_set h0 mc ms x0 x1 x2 x3 x4 x5 post) (sz : Nat) : Met l yL_set (Cond.codeWith yL_set cL_set 7 (some .int) [(0, 11, 14, 13)] :: lg) (rL_set mc ms) (x_Pw G [.ref x0, .int x1, .int x2, .int x3, .int x4, .int x5] h0 sz) (x_Qi G h0 sz post) mc ms (x_A h0 sz) := by
  refine x_ofWH (cc := cL_set) (maxL := 7) (ret := some .int) (hh := [(0, 11, 14, 13)]) (by decide) rfl ?_
  intro p e s m args below meth c s₁ B hml hv
  obtain ⟨rfl, hsz, hR, hK, hZ, hC⟩ := hv
  subst hsz
  have hws : ∀ w ∈ Cond.codeWith yL_set cL_set 7 (some .int) [(0, 11, 14, 13)] :: lg, w.before _ s = true := atoms_spec (ws := Cond.codeWith yL_set cL_set 7 (some .int) [(0, 11, 14, 13)] :: lg) B.pre
  have htab : c.exceptionTable.toList = tableOf [(0, 11, 14, 13)] := vx_table (x := yX6_begin) B (hws _ List.mem_cons_self)
  have hg : ∀ w ∈ lg, w.before _ s = true := fun w hw => hws w (List.mem_cons_of_mem _ hw)
  have hx := B.exec
  have hb := B.bytes
  have hr := B.returns
  have hown := findClass_of_methodNamed B.named
  have hlocks := B.notSynchronized
  have hI : x_I G (x_A h0 s.heap.size) s.heap h0 s.heap [] := x_I.start hR
  have hl := lv_entry ([.ref x0, .int x1, .int x2, .int x3, .int x4, .int x5]) (n := 7) (Nat.le_of_ble_eq_true rfl)
  rw [lg_entry_eq]
  generalize (lg_sl ([.ref x0, .int x1, .int x2, .int x3, .int x4, .int x5]) ++ List.replicate (7 - (lg_sl ([.ref x0, .int x1, .int x2, .int x3, .int x4, .int x5])).length) Slot.unset).toArray = ls at hl ⊢
  have hl : lv_has ls 7 [(0, .ref x0), (1, .int x1), (2, .int x2), (3, .int x3), (4, .int x4), (5, .int x5)] := hl
  refine lv_aload_n hx hb dL_set_0 rfl (lv_at hl 0 rfl) ?_
  refine lv_iload_n hx hb dL_set_1 rfl (lv_at hl 1 rfl) ?_
  refine lv_iload_n hx hb dL_set_2 rfl (lv_at hl 2 rfl) ?_
  refine lv_iload_n hx hb dL_set_3 rfl (lv_at hl 3 rfl) ?_
  refine lv_iload hx hb dL_set_4 (lv_at hl 4 rfl) ?_
  refine lv_iload hx hb dL_set_6 (lv_at hl 5 rfl) ?_
  obtain ⟨fs, he, hw⟩ := hw
  refine vx_callv (vx_runV (As := [.int x1, .int x2, .int x3, .int x4, .int x5]) (rest := []) ⟨hx, hb, hml, hown, hg⟩ (m_X6_set l hst G h0 mc ms x0 x1 x2 x3 x4 x5 _ _ hw s.heap.size) (cwV 5 hg (x_gV km_L_15 ki_X6_set kz_X6_X6_set kn_X6 kk_X6_set) rfl rfl rfl (by decide +kernel) ⟨Nat.le_of_ble_eq_true rfl, Nat.le_of_ble_eq_true rfl⟩) ⟨x_blindx, x_recv hI hK he rfl rfl, x_prex hI hK hZ⟩ rfl rfl hl.1 rfl (lv_room (Nat.le_of_ble_eq_true rfl)) dL_set_8 ⟨show 0 + mc ≤ mc by omega, show 0 + ms ≤ ms by omega⟩) hI.2.2.1 (fun q _ hq => x_sub hI q hq) (x_sub hI) (fun q _ hq => x_sub hI q hq) (fun E ce q9 h H H1 locs ht _ _ hB _ _ hS hce hv hcl => ?_) (fun h t H locs ht _ hw hB _ _ hS => ?_)
  · have hI := x_back hI ht hB.2 hS
    obtain ⟨hE, hw⟩ := hB.1
    subst hE
    refine vx_catch hown [] (⟨0, 11, 14, 13⟩ : ExceptionTableEntry) [] (htab.trans rfl) (fun z hz => absurd hz (by simp)) rfl (by decide) (hg _ (at_cl _ (by decide +kernel))) (va_Nw.use rfl hZ.2.2.2.2.2.1) hce hv hcl ?_
    refine lv_astore (lv' := [(6, .ref q9), (0, .ref x0), (1, .int x1), (2, .int x2), (3, .int x3), (4, .int x4), (5, .int x5)]) hx hb dL_set_14 hl (by decide) rfl (fun ls hl => ?_)
    refine lv_iconst (v := 1) hx hb dL_set_16 (by decide) ?_
    exact x_iret hx hb hr hlocks hI hw (show 0 + mc ≤ mc by omega) (show 0 + ms ≤ ms by omega) dL_set_17
  · have hI := x_back hI ht hB hS
    refine lv_goto (tgt := 18) hx hb dL_set_11 (by decide) ?_
    refine lv_iconst (v := 0) hx hb dL_set_18 (by decide) ?_
    exact x_iret hx hb hr hlocks hI hw (show 0 + mc ≤ mc by omega) (show 0 + ms ≤ ms by omega) dL_set_19
-- ===== law: start
abbrev rL_start (mc ms : Nat) : Room := { frames := 7, cells := mc, slots := ms, locals := 133 }
def wp_L_start (h0 : xH) (mc ms : Nat) (x0 : Nat)  (post : Int32 → xH → Prop) : Prop := ∃ fs : List Value, h0 x0 = some (.inr (6, fs)) ∧ wp_X6_start h0 mc ms x0  (fun h => post 0 h) (fun E h => (E = EIS ∧ post 1 h))
set_option maxHeartbeats 4000000 in
set_option maxRecDepth 100000 in
theorem m_L_start (l : Launch) (hst : l.stackTraces = false) (G : xG) (h0 : xH) (mc ms : Nat) (x0 : Nat)  (post : Int32 → xH → Prop) (hw : wp_L_start h0 mc ms x0 post) (sz : Nat) : Met l yL_start (Cond.codeWith yL_start cL_start 2 (some .int) [(0, 4, 7, 22)] :: lg) (rL_start mc ms) (x_Pw G [.ref x0] h0 sz) (x_Qi G h0 sz post) mc ms (x_A h0 sz) := by
  refine x_ofWH (cc := cL_start) (maxL := 2) (ret := some .int) (hh := [(0, 4, 7, 22)]) (by decide) rfl ?_
  intro p e s m args below meth c s₁ B hml hv
  obtain ⟨rfl, hsz, hR, hK, hZ, hC⟩ := hv
  subst hsz
  have hws : ∀ w ∈ Cond.codeWith yL_start cL_start 2 (some .int) [(0, 4, 7, 22)] :: lg, w.before _ s = true := atoms_spec (ws := Cond.codeWith yL_start cL_start 2 (some .int) [(0, 4, 7, 22)] :: lg) B.pre
  have htab : c.exceptionTable.toList = tableOf [(0, 4, 7, 22)] := vx_table (x := yX6_begin) B (hws _ List.mem_cons_self)
  have hg : ∀ w ∈ lg, w.before _ s = true := fun w hw => hws w (List.mem_cons_of_mem _ hw)
  have hx := B.exec
  have hb := B.bytes
  have hr := B.returns
  have hown := findClass_of_methodNamed B.named
  have hlocks := B.notSynchronized
  have hI : x_I G (x_A h0 s.heap.size) s.heap h0 s.heap [] := x_I.start hR
  have hl := lv_entry ([.ref x0]) (n := 2) (Nat.le_of_ble_eq_true rfl)
  rw [lg_entry_eq]
  generalize (lg_sl ([.ref x0]) ++ List.replicate (2 - (lg_sl ([.ref x0])).length) Slot.unset).toArray = ls at hl ⊢
  have hl : lv_has ls 2 [(0, .ref x0)] := hl
  refine lv_aload_n hx hb dL_start_0 rfl (lv_at hl 0 rfl) ?_
  obtain ⟨fs, he, hw⟩ := hw
  refine vx_callv (vx_runV (As := []) (rest := []) ⟨hx, hb, hml, hown, hg⟩ (m_X6_start l hst G h0 mc ms x0  _ _ hw s.heap.size) (cwV 0 hg (x_gV km_L_19 ki_X6_start kz_X6_X6_start kn_X6 kk_X6_start) rfl rfl rfl (by decide +kernel) ⟨Nat.le_of_ble_eq_true rfl, Nat.le_of_ble_eq_true rfl⟩) ⟨x_blindx, x_recv hI hK he rfl rfl, x_prex hI hK hZ⟩ rfl rfl hl.1 rfl (lv_room (Nat.le_of_ble_eq_true rfl)) dL_start_1 ⟨show 0 + mc ≤ mc by omega, show 0 + ms ≤ ms by omega⟩) hI.2.2.1 (fun q _ hq => x_sub hI q hq) (x_sub hI) (fun q _ hq => x_sub hI q hq) (fun E ce q9 h H H1 locs ht _ _ hB _ _ hS hce hv hcl => ?_) (fun h t H locs ht _ hw hB _ _ hS => ?_)
  · have hI := x_back hI ht hB.2 hS
    obtain ⟨hE, hw⟩ := hB.1
    subst hE
    refine vx_catch hown [] (⟨0, 4, 7, 22⟩ : ExceptionTableEntry) [] (htab.trans rfl) (fun z hz => absurd hz (by simp)) rfl (by decide) (hg _ (at_cl _ (by decide +kernel))) (va_Nw.use rfl hZ.2.2.2.2.2.2.1) hce hv hcl ?_
    refine lv_astore_n (lv' := [(1, .ref q9), (0, .ref x0)]) hx hb dL_start_7 rfl hl (by decide) rfl (fun ls hl => ?_)
    refine lv_iconst (v := 1) hx hb dL_start_8 (by decide) ?_
    exact x_iret hx hb hr hlocks hI hw (show 0 + mc ≤ mc by omega) (show 0 + ms ≤ ms by omega) dL_start_9
  · have hI := x_back hI ht hB hS
    refine lv_goto (tgt := 10) hx hb dL_start_4 (by decide) ?_
    refine lv_iconst (v := 0) hx hb dL_start_10 (by decide) ?_
    exact x_iret hx hb hr hlocks hI hw (show 0 + mc ≤ mc by omega) (show 0 + ms ≤ ms by omega) dL_start_11
-- ===== law: predict
abbrev rL_predict (mc ms : Nat) : Room := { frames := 8, cells := mc, slots := ms, locals := 196 }
def wp_L_predict (h0 : xH) (mc ms : Nat) (x0 : Nat)  (x1 : Nat) (post : Int32 → xH → Prop) : Prop := ∃ fs : List Value, h0 x0 = some (.inr (6, fs)) ∧ wp_X6_predict h0 mc ms x0  (fun (r : Int32) h => ∃ (n : Nat) (f : Nat → Int64), h x1 = some (.inl (1, n, .inr (.inl f))) ∧ vp_in 0 n ∧ ∀ h1 : xH, h1 = x_up h x1 (.inl (1, n, .inr (.inl (vp_updL f (0 : Int32).toNatClampNeg ((r : Int32).toInt64))))) → post 0 h1) (fun E h => (E = EIS ∧ post 1 h))
set_option maxHeartbeats 4000000 in
set_option maxRecDepth 100000 in
theorem m_L_predict (l : Launch) (hst : l.stackTraces = false) (G : xG) (h0 : xH) (mc ms : Nat) (x0 : Nat)  (x1 : Nat) (post : Int32 → xH → Prop) (hw : wp_L_predict h0 mc ms x0 x1 post) (sz : Nat) : Met l yL_predict (Cond.codeWith yL_predict cL_predict 3 (some .int) [(0, 8, 11, 22)] :: lg) (rL_predict mc ms) (x_Pw G [.ref x0, .ref x1] h0 sz) (x_Qi G h0 sz post) mc ms (x_A h0 sz) := by
  refine x_ofWH (cc := cL_predict) (maxL := 3) (ret := some .int) (hh := [(0, 8, 11, 22)]) (by decide) rfl ?_
  intro p e s m args below meth c s₁ B hml hv
  obtain ⟨rfl, hsz, hR, hK, hZ, hC⟩ := hv
  subst hsz
  have hws : ∀ w ∈ Cond.codeWith yL_predict cL_predict 3 (some .int) [(0, 8, 11, 22)] :: lg, w.before _ s = true := atoms_spec (ws := Cond.codeWith yL_predict cL_predict 3 (some .int) [(0, 8, 11, 22)] :: lg) B.pre
  have htab : c.exceptionTable.toList = tableOf [(0, 8, 11, 22)] := vx_table (x := yX6_begin) B (hws _ List.mem_cons_self)
  have hg : ∀ w ∈ lg, w.before _ s = true := fun w hw => hws w (List.mem_cons_of_mem _ hw)
  have hx := B.exec
  have hb := B.bytes
  have hr := B.returns
  have hown := findClass_of_methodNamed B.named
  have hlocks := B.notSynchronized
  have hI : x_I G (x_A h0 s.heap.size) s.heap h0 s.heap [] := x_I.start hR
  have hl := lv_entry ([.ref x0, .ref x1]) (n := 3) (Nat.le_of_ble_eq_true rfl)
  rw [lg_entry_eq]
  generalize (lg_sl ([.ref x0, .ref x1]) ++ List.replicate (3 - (lg_sl ([.ref x0, .ref x1])).length) Slot.unset).toArray = ls at hl ⊢
  have hl : lv_has ls 3 [(0, .ref x0), (1, .ref x1)] := hl
  refine lv_aload_n hx hb dL_predict_0 rfl (lv_at hl 1 rfl) ?_
  refine lv_iconst (v := 0) hx hb dL_predict_1 (by decide) ?_
  refine lv_aload_n hx hb dL_predict_2 rfl (lv_at hl 0 rfl) ?_
  obtain ⟨fs, he, hw⟩ := hw
  refine vx_calli (vx_runV (As := []) (rest := [.int 0, .ref x1]) ⟨hx, hb, hml, hown, hg⟩ (m_X6_predict l hst G h0 mc ms x0  _ _ hw s.heap.size) (cwV 0 hg (x_gV km_L_24 ki_X6_predict kz_X6_X6_predict kn_X6 kk_X6_predict) rfl rfl rfl (by decide +kernel) ⟨Nat.le_of_ble_eq_true rfl, Nat.le_of_ble_eq_true rfl⟩) ⟨x_blindx, x_recv hI hK he rfl rfl, x_prex hI hK hZ⟩ rfl rfl hl.1 rfl (lv_room (Nat.le_of_ble_eq_true rfl)) dL_predict_3 ⟨show 0 + mc ≤ mc by omega, show 0 + ms ≤ ms by omega⟩) hI.2.2.1 (fun q _ hq => x_sub hI q hq) (x_sub hI) (fun q _ hq => x_sub hI q hq) (fun E ce q9 h H H1 locs ht _ _ hB _ _ hS hce hv hcl => ?_) (fun r h t H locs ht _ hw hB _ _ hS => ?_)
  · have hI := x_back hI ht hB.2 hS
    obtain ⟨hE, hw⟩ := hB.1
    subst hE
    refine vx_catch hown [] (⟨0, 8, 11, 22⟩ : ExceptionTableEntry) [] (htab.trans rfl) (fun z hz => absurd hz (by simp)) rfl (by decide) (hg _ (at_cl _ (by decide +kernel))) (va_Nw.use rfl hZ.2.2.2.2.2.2.1) hce hv hcl ?_
    refine lv_astore_n (lv' := [(2, .ref q9), (0, .ref x0), (1, .ref x1)]) hx hb dL_predict_11 rfl hl (by decide) rfl (fun ls hl => ?_)
    refine lv_iconst (v := 1) hx hb dL_predict_12 (by decide) ?_
    exact x_iret hx hb hr hlocks hI hw (show 0 + mc ≤ mc by omega) (show 0 + ms ≤ ms by omega) dL_predict_13
  · have hI := x_back hI ht hB hS
    refine lv_i2l hx hb dL_predict_6 rfl ?_
    obtain ⟨n, f, hf, hin, hw⟩ := hw
    refine x_last hx hb hK hI hf hin dL_predict_7 (fun H locs hI => ?_)
    have hw := hw _ rfl
    refine lv_goto (tgt := 14) hx hb dL_predict_8 (by decide) ?_
    refine lv_iconst (v := 0) hx hb dL_predict_14 (by decide) ?_
    exact x_iret hx hb hr hlocks hI hw (show 0 + mc ≤ mc by omega) (show 0 + ms ≤ ms by omega) dL_predict_15
-- ===== law: measure
abbrev rL_measure (mc ms : Nat) : Room := { frames := 9, cells := mc, slots := ms, locals := 224 }
def wp_L_measure (h0 : xH) (mc ms : Nat) (x0 : Nat) (x1 : Int32) (x2 : Int32) (x3 : Nat) (post : Int32 → xH → Prop) : Prop := ∃ fs : List Value, h0 x0 = some (.inr (6, fs)) ∧ wp_X6_measure h0 mc ms x0 x1 x2 (fun (r : Int32) h => ∃ (n : Nat) (f : Nat → Int64), h x3 = some (.inl (1, n, .inr (.inl f))) ∧ vp_in 0 n ∧ ∀ h1 : xH, h1 = x_up h x3 (.inl (1, n, .inr (.inl (vp_updL f (0 : Int32).toNatClampNeg ((r : Int32).toInt64))))) → post 0 h1) (fun E h => (E = EIA ∧ post 1 h) ∨ (E = EIS ∧ post 2 h) ∨ (E = EAR ∧ post 3 h))
set_option maxHeartbeats 4000000 in
set_option maxRecDepth 100000 in
theorem m_L_measure (l : Launch) (hst : l.stackTraces = false) (G : xG) (h0 : xH) (mc ms : Nat) (x0 : Nat) (x1 : Int32) (x2 : Int32) (x3 : Nat) (post : Int32 → xH → Prop) (hw : wp_L_measure h0 mc ms x0 x1 x2 x3 post) (sz : Nat) : Met l yL_measure (Cond.codeWith yL_measure cL_measure 5 (some .int) [(0, 10, 13, 13), (0, 10, 17, 22), (0, 10, 21, 32)] :: lg) (rL_measure mc ms) (x_Pw G [.ref x0, .int x1, .int x2, .ref x3] h0 sz) (x_Qi G h0 sz post) mc ms (x_A h0 sz) := by
  refine x_ofWH (cc := cL_measure) (maxL := 5) (ret := some .int) (hh := [(0, 10, 13, 13), (0, 10, 17, 22), (0, 10, 21, 32)]) (by decide) rfl ?_
  intro p e s m args below meth c s₁ B hml hv
  obtain ⟨rfl, hsz, hR, hK, hZ, hC⟩ := hv
  subst hsz
  have hws : ∀ w ∈ Cond.codeWith yL_measure cL_measure 5 (some .int) [(0, 10, 13, 13), (0, 10, 17, 22), (0, 10, 21, 32)] :: lg, w.before _ s = true := atoms_spec (ws := Cond.codeWith yL_measure cL_measure 5 (some .int) [(0, 10, 13, 13), (0, 10, 17, 22), (0, 10, 21, 32)] :: lg) B.pre
  have htab : c.exceptionTable.toList = tableOf [(0, 10, 13, 13), (0, 10, 17, 22), (0, 10, 21, 32)] := vx_table (x := yX6_begin) B (hws _ List.mem_cons_self)
  have hg : ∀ w ∈ lg, w.before _ s = true := fun w hw => hws w (List.mem_cons_of_mem _ hw)
  have hx := B.exec
  have hb := B.bytes
  have hr := B.returns
  have hown := findClass_of_methodNamed B.named
  have hlocks := B.notSynchronized
  have hI : x_I G (x_A h0 s.heap.size) s.heap h0 s.heap [] := x_I.start hR
  have hl := lv_entry ([.ref x0, .int x1, .int x2, .ref x3]) (n := 5) (Nat.le_of_ble_eq_true rfl)
  rw [lg_entry_eq]
  generalize (lg_sl ([.ref x0, .int x1, .int x2, .ref x3]) ++ List.replicate (5 - (lg_sl ([.ref x0, .int x1, .int x2, .ref x3])).length) Slot.unset).toArray = ls at hl ⊢
  have hl : lv_has ls 5 [(0, .ref x0), (1, .int x1), (2, .int x2), (3, .ref x3)] := hl
  refine lv_aload_n hx hb dL_measure_0 rfl (lv_at hl 3 rfl) ?_
  refine lv_iconst (v := 0) hx hb dL_measure_1 (by decide) ?_
  refine lv_aload_n hx hb dL_measure_2 rfl (lv_at hl 0 rfl) ?_
  refine lv_iload_n hx hb dL_measure_3 rfl (lv_at hl 1 rfl) ?_
  refine lv_iload_n hx hb dL_measure_4 rfl (lv_at hl 2 rfl) ?_
  obtain ⟨fs, he, hw⟩ := hw
  refine vx_calli (vx_runV (As := [.int x1, .int x2]) (rest := [.int 0, .ref x3]) ⟨hx, hb, hml, hown, hg⟩ (m_X6_measure l hst G h0 mc ms x0 x1 x2 _ _ hw s.heap.size) (cwV 2 hg (x_gV km_L_28 ki_X6_measure kz_X6_X6_measure kn_X6 kk_X6_measure) rfl rfl rfl (by decide +kernel) ⟨Nat.le_of_ble_eq_true rfl, Nat.le_of_ble_eq_true rfl⟩) ⟨x_blindx, x_recv hI hK he rfl rfl, x_prex hI hK hZ⟩ rfl rfl hl.1 rfl (lv_room (Nat.le_of_ble_eq_true rfl)) dL_measure_5 ⟨show 0 + mc ≤ mc by omega, show 0 + ms ≤ ms by omega⟩) hI.2.2.1 (fun q _ hq => x_sub hI q hq) (x_sub hI) (fun q _ hq => x_sub hI q hq) (fun E ce q9 h H H1 locs ht _ _ hB _ _ hS hce hv hcl => ?_) (fun r h t H locs ht _ hw hB _ _ hS => ?_)
  · have hI := x_back hI ht hB.2 hS
    rcases hB.1 with ⟨hE, hw⟩ | ⟨hE, hw⟩ | ⟨hE, hw⟩
    · subst hE
      refine vx_catch hown [] (⟨0, 10, 13, 13⟩ : ExceptionTableEntry) [(⟨0, 10, 17, 22⟩ : ExceptionTableEntry), (⟨0, 10, 21, 32⟩ : ExceptionTableEntry)] (htab.trans rfl) (fun z hz => absurd hz (by simp)) rfl (by decide) (hg _ (at_cl _ (by decide +kernel))) (va_Nw.use rfl hZ.2.2.2.2.2.1) hce hv hcl ?_
      refine lv_astore (lv' := [(4, .ref q9), (0, .ref x0), (1, .int x1), (2, .int x2), (3, .ref x3)]) hx hb dL_measure_13 hl (by decide) rfl (fun ls hl => ?_)
      refine lv_iconst (v := 1) hx hb dL_measure_15 (by decide) ?_
      exact x_iret hx hb hr hlocks hI hw (show 0 + mc ≤ mc by omega) (show 0 + ms ≤ ms by omega) dL_measure_16
    · subst hE
      refine vx_catch hown [(⟨0, 10, 13, 13⟩ : ExceptionTableEntry)] (⟨0, 10, 17, 22⟩ : ExceptionTableEntry) [(⟨0, 10, 21, 32⟩ : ExceptionTableEntry)] (htab.trans rfl) (fun z hz => ?_) rfl (by decide) (hg _ (at_cl _ (by decide +kernel))) (va_Nw.use rfl hZ.2.2.2.2.2.2.1) hce hv hcl ?_
      · simp only [List.mem_cons, List.not_mem_nil, or_false] at hz
        subst hz
        exact Or.inr ⟨by decide, EIA, hg _ (at_cl _ (by decide +kernel)), hC.1⟩
      · refine lv_astore (lv' := [(4, .ref q9), (0, .ref x0), (1, .int x1), (2, .int x2), (3, .ref x3)]) hx hb dL_measure_17 hl (by decide) rfl (fun ls hl => ?_)
        refine lv_iconst (v := 2) hx hb dL_measure_19 (by decide) ?_
        exact x_iret hx hb hr hlocks hI hw (show 0 + mc ≤ mc by omega) (show 0 + ms ≤ ms by omega) dL_measure_20
    · subst hE
      refine vx_catch hown [(⟨0, 10, 13, 13⟩ : ExceptionTableEntry), (⟨0, 10, 17, 22⟩ : ExceptionTableEntry)] (⟨0, 10, 21, 32⟩ : ExceptionTableEntry) [] (htab.trans rfl) (fun z hz => ?_) rfl (by decide) (hg _ (at_cl _ (by decide +kernel))) (va_Nw.use rfl hZ.2.2.2.2.2.2.2) hce hv hcl ?_
      · simp only [List.mem_cons, List.not_mem_nil, or_false] at hz
        rcases hz with hz | hz
        · subst hz
          exact Or.inr ⟨by decide, EIA, hg _ (at_cl _ (by decide +kernel)), hC.2.2.1⟩
        · subst hz
          exact Or.inr ⟨by decide, EIS, hg _ (at_cl _ (by decide +kernel)), hC.2.2.2⟩
      · refine lv_astore (lv' := [(4, .ref q9), (0, .ref x0), (1, .int x1), (2, .int x2), (3, .ref x3)]) hx hb dL_measure_21 hl (by decide) rfl (fun ls hl => ?_)
        refine lv_iconst (v := 3) hx hb dL_measure_23 (by decide) ?_
        exact x_iret hx hb hr hlocks hI hw (show 0 + mc ≤ mc by omega) (show 0 + ms ≤ ms by omega) dL_measure_24
  · have hI := x_back hI ht hB hS
    refine lv_i2l hx hb dL_measure_8 rfl ?_
    obtain ⟨n, f, hf, hin, hw⟩ := hw
    refine x_last hx hb hK hI hf hin dL_measure_9 (fun H locs hI => ?_)
    have hw := hw _ rfl
    refine lv_goto (tgt := 25) hx hb dL_measure_10 (by decide) ?_
    refine lv_iconst (v := 0) hx hb dL_measure_25 (by decide) ?_
    exact x_iret hx hb hr hlocks hI hw (show 0 + mc ≤ mc by omega) (show 0 + ms ≤ ms by omega) dL_measure_26
-- ===== law: sign
abbrev rL_sign (mc ms : Nat) : Room := { frames := 8, cells := mc, slots := ms, locals := 128 }
def wp_L_sign (h0 : xH) (mc ms : Nat) (x0 : Nat) (x1 : Int32) (x2 : Int32) (x3 : Int32) (x4 : Nat) (post : Int32 → xH → Prop) : Prop := ∃ fs : List Value, h0 x0 = some (.inr (6, fs)) ∧ wp_X6_sign h0 mc ms x0 x1 x2 x3 (fun (r : Int32) h => ∃ (n : Nat) (f : Nat → Int64), h x4 = some (.inl (1, n, .inr (.inl f))) ∧ vp_in 0 n ∧ ∀ h1 : xH, h1 = x_up h x4 (.inl (1, n, .inr (.inl (vp_updL f (0 : Int32).toNatClampNeg ((r : Int32).toInt64))))) → post 0 h1) (fun E h => (E = EIS ∧ post 1 h) ∨ (E = EIA ∧ post 2 h))
set_option maxHeartbeats 4000000 in
set_option maxRecDepth 100000 in
theorem m_L_sign (l : Launch) (hst : l.stackTraces = false) (G : xG) (h0 : xH) (mc ms : Nat) (x0 : Nat) (x1 : Int32) (x2 : Int32) (x3 : Int32) (x4 : Nat) (post : Int32 → xH → Prop) (hw : wp_L_sign h0 mc ms x0 x1 x2 x3 x4 post) (sz : Nat) : Met l yL_sign (Cond.codeWith yL_sign cL_sign 6 (some .int) [(0, 12, 15, 22), (0, 12, 19, 13)] :: lg) (rL_sign mc ms) (x_Pw G [.ref x0, .int x1, .int x2, .int x3, .ref x4] h0 sz) (x_Qi G h0 sz post) mc ms (x_A h0 sz) := by
  refine x_ofWH (cc := cL_sign) (maxL := 6) (ret := some .int) (hh := [(0, 12, 15, 22), (0, 12, 19, 13)]) (by decide) rfl ?_
  intro p e s m args below meth c s₁ B hml hv
  obtain ⟨rfl, hsz, hR, hK, hZ, hC⟩ := hv
  subst hsz
  have hws : ∀ w ∈ Cond.codeWith yL_sign cL_sign 6 (some .int) [(0, 12, 15, 22), (0, 12, 19, 13)] :: lg, w.before _ s = true := atoms_spec (ws := Cond.codeWith yL_sign cL_sign 6 (some .int) [(0, 12, 15, 22), (0, 12, 19, 13)] :: lg) B.pre
  have htab : c.exceptionTable.toList = tableOf [(0, 12, 15, 22), (0, 12, 19, 13)] := vx_table (x := yX6_begin) B (hws _ List.mem_cons_self)
  have hg : ∀ w ∈ lg, w.before _ s = true := fun w hw => hws w (List.mem_cons_of_mem _ hw)
  have hx := B.exec
  have hb := B.bytes
  have hr := B.returns
  have hown := findClass_of_methodNamed B.named
  have hlocks := B.notSynchronized
  have hI : x_I G (x_A h0 s.heap.size) s.heap h0 s.heap [] := x_I.start hR
  have hl := lv_entry ([.ref x0, .int x1, .int x2, .int x3, .ref x4]) (n := 6) (Nat.le_of_ble_eq_true rfl)
  rw [lg_entry_eq]
  generalize (lg_sl ([.ref x0, .int x1, .int x2, .int x3, .ref x4]) ++ List.replicate (6 - (lg_sl ([.ref x0, .int x1, .int x2, .int x3, .ref x4])).length) Slot.unset).toArray = ls at hl ⊢
  have hl : lv_has ls 6 [(0, .ref x0), (1, .int x1), (2, .int x2), (3, .int x3), (4, .ref x4)] := hl
  refine lv_aload hx hb dL_sign_0 (lv_at hl 4 rfl) ?_
  refine lv_iconst (v := 0) hx hb dL_sign_2 (by decide) ?_
  refine lv_aload_n hx hb dL_sign_3 rfl (lv_at hl 0 rfl) ?_
  refine lv_iload_n hx hb dL_sign_4 rfl (lv_at hl 1 rfl) ?_
  refine lv_iload_n hx hb dL_sign_5 rfl (lv_at hl 2 rfl) ?_
  refine lv_iload_n hx hb dL_sign_6 rfl (lv_at hl 3 rfl) ?_
  obtain ⟨fs, he, hw⟩ := hw
  refine vx_calli (vx_runV (As := [.int x1, .int x2, .int x3]) (rest := [.int 0, .ref x4]) ⟨hx, hb, hml, hown, hg⟩ (m_X6_sign l hst G h0 mc ms x0 x1 x2 x3 _ _ hw s.heap.size) (cwV 3 hg (x_gV km_L_34 ki_X6_sign kz_X6_X6_sign kn_X6 kk_X6_sign) rfl rfl rfl (by decide +kernel) ⟨Nat.le_of_ble_eq_true rfl, Nat.le_of_ble_eq_true rfl⟩) ⟨x_blindx, x_recv hI hK he rfl rfl, x_prex hI hK hZ⟩ rfl rfl hl.1 rfl (lv_room (Nat.le_of_ble_eq_true rfl)) dL_sign_7 ⟨show 0 + mc ≤ mc by omega, show 0 + ms ≤ ms by omega⟩) hI.2.2.1 (fun q _ hq => x_sub hI q hq) (x_sub hI) (fun q _ hq => x_sub hI q hq) (fun E ce q9 h H H1 locs ht _ _ hB _ _ hS hce hv hcl => ?_) (fun r h t H locs ht _ hw hB _ _ hS => ?_)
  · have hI := x_back hI ht hB.2 hS
    rcases hB.1 with ⟨hE, hw⟩ | ⟨hE, hw⟩
    · subst hE
      refine vx_catch hown [] (⟨0, 12, 15, 22⟩ : ExceptionTableEntry) [(⟨0, 12, 19, 13⟩ : ExceptionTableEntry)] (htab.trans rfl) (fun z hz => absurd hz (by simp)) rfl (by decide) (hg _ (at_cl _ (by decide +kernel))) (va_Nw.use rfl hZ.2.2.2.2.2.2.1) hce hv hcl ?_
      refine lv_astore (lv' := [(5, .ref q9), (0, .ref x0), (1, .int x1), (2, .int x2), (3, .int x3), (4, .ref x4)]) hx hb dL_sign_15 hl (by decide) rfl (fun ls hl => ?_)
      refine lv_iconst (v := 1) hx hb dL_sign_17 (by decide) ?_
      exact x_iret hx hb hr hlocks hI hw (show 0 + mc ≤ mc by omega) (show 0 + ms ≤ ms by omega) dL_sign_18
    · subst hE
      refine vx_catch hown [(⟨0, 12, 15, 22⟩ : ExceptionTableEntry)] (⟨0, 12, 19, 13⟩ : ExceptionTableEntry) [] (htab.trans rfl) (fun z hz => ?_) rfl (by decide) (hg _ (at_cl _ (by decide +kernel))) (va_Nw.use rfl hZ.2.2.2.2.2.1) hce hv hcl ?_
      · simp only [List.mem_cons, List.not_mem_nil, or_false] at hz
        subst hz
        exact Or.inr ⟨by decide, EIS, hg _ (at_cl _ (by decide +kernel)), hC.2.1⟩
      · refine lv_astore (lv' := [(5, .ref q9), (0, .ref x0), (1, .int x1), (2, .int x2), (3, .int x3), (4, .ref x4)]) hx hb dL_sign_19 hl (by decide) rfl (fun ls hl => ?_)
        refine lv_iconst (v := 2) hx hb dL_sign_21 (by decide) ?_
        exact x_iret hx hb hr hlocks hI hw (show 0 + mc ≤ mc by omega) (show 0 + ms ≤ ms by omega) dL_sign_22
  · have hI := x_back hI ht hB hS
    refine lv_i2l hx hb dL_sign_10 rfl ?_
    obtain ⟨n, f, hf, hin, hw⟩ := hw
    refine x_last hx hb hK hI hf hin dL_sign_11 (fun H locs hI => ?_)
    have hw := hw _ rfl
    refine lv_goto (tgt := 23) hx hb dL_sign_12 (by decide) ?_
    refine lv_iconst (v := 0) hx hb dL_sign_23 (by decide) ?_
    exact x_iret hx hb hr hlocks hI hw (show 0 + mc ≤ mc by omega) (show 0 + ms ≤ ms by omega) dL_sign_24
-- ===== law: pieces
abbrev rL_pieces (mc ms : Nat) : Room := { frames := 9, cells := mc, slots := ms, locals := 219 }
def wp_L_pieces (h0 : xH) (mc ms : Nat) (x0 : Nat) (x1 : Int32) (x2 : Int32) (x3 : Int32) (x4 : Int32) (x5 : Nat) (post : Int32 → xH → Prop) : Prop := ∃ fs : List Value, h0 x0 = some (.inr (6, fs)) ∧ wp_X6_pieces h0 mc ms x0 x1 x2 x3 x4 (fun (r : Int32) h => ∃ (n : Nat) (f : Nat → Int64), h x5 = some (.inl (1, n, .inr (.inl f))) ∧ vp_in 0 n ∧ ∀ h1 : xH, h1 = x_up h x5 (.inl (1, n, .inr (.inl (vp_updL f (0 : Int32).toNatClampNeg ((r : Int32).toInt64))))) → post 0 h1) (fun E h => (E = EIS ∧ post 1 h) ∨ (E = EIA ∧ post 2 h))
set_option maxHeartbeats 4000000 in
set_option maxRecDepth 100000 in
theorem m_L_pieces (l : Launch) (hst : l.stackTraces = false) (G : xG) (h0 : xH) (mc ms : Nat) (x0 : Nat) (x1 : Int32) (x2 : Int32) (x3 : Int32) (x4 : Int32) (x5 : Nat) (post : Int32 → xH → Prop) (hw : wp_L_pieces h0 mc ms x0 x1 x2 x3 x4 x5 post) (sz : Nat) : Met l yL_pieces (Cond.codeWith yL_pieces cL_pieces 7 (some .int) [(0, 14, 17, 22), (0, 14, 21, 13)] :: lg) (rL_pieces mc ms) (x_Pw G [.ref x0, .int x1, .int x2, .int x3, .int x4, .ref x5] h0 sz) (x_Qi G h0 sz post) mc ms (x_A h0 sz) := by
  refine x_ofWH (cc := cL_pieces) (maxL := 7) (ret := some .int) (hh := [(0, 14, 17, 22), (0, 14, 21, 13)]) (by decide) rfl ?_
  intro p e s m args below meth c s₁ B hml hv
  obtain ⟨rfl, hsz, hR, hK, hZ, hC⟩ := hv
  subst hsz
  have hws : ∀ w ∈ Cond.codeWith yL_pieces cL_pieces 7 (some .int) [(0, 14, 17, 22), (0, 14, 21, 13)] :: lg, w.before _ s = true := atoms_spec (ws := Cond.codeWith yL_pieces cL_pieces 7 (some .int) [(0, 14, 17, 22), (0, 14, 21, 13)] :: lg) B.pre
  have htab : c.exceptionTable.toList = tableOf [(0, 14, 17, 22), (0, 14, 21, 13)] := vx_table (x := yX6_begin) B (hws _ List.mem_cons_self)
  have hg : ∀ w ∈ lg, w.before _ s = true := fun w hw => hws w (List.mem_cons_of_mem _ hw)
  have hx := B.exec
  have hb := B.bytes
  have hr := B.returns
  have hown := findClass_of_methodNamed B.named
  have hlocks := B.notSynchronized
  have hI : x_I G (x_A h0 s.heap.size) s.heap h0 s.heap [] := x_I.start hR
  have hl := lv_entry ([.ref x0, .int x1, .int x2, .int x3, .int x4, .ref x5]) (n := 7) (Nat.le_of_ble_eq_true rfl)
  rw [lg_entry_eq]
  generalize (lg_sl ([.ref x0, .int x1, .int x2, .int x3, .int x4, .ref x5]) ++ List.replicate (7 - (lg_sl ([.ref x0, .int x1, .int x2, .int x3, .int x4, .ref x5])).length) Slot.unset).toArray = ls at hl ⊢
  have hl : lv_has ls 7 [(0, .ref x0), (1, .int x1), (2, .int x2), (3, .int x3), (4, .int x4), (5, .ref x5)] := hl
  refine lv_aload hx hb dL_pieces_0 (lv_at hl 5 rfl) ?_
  refine lv_iconst (v := 0) hx hb dL_pieces_2 (by decide) ?_
  refine lv_aload_n hx hb dL_pieces_3 rfl (lv_at hl 0 rfl) ?_
  refine lv_iload_n hx hb dL_pieces_4 rfl (lv_at hl 1 rfl) ?_
  refine lv_iload_n hx hb dL_pieces_5 rfl (lv_at hl 2 rfl) ?_
  refine lv_iload_n hx hb dL_pieces_6 rfl (lv_at hl 3 rfl) ?_
  refine lv_iload hx hb dL_pieces_7 (lv_at hl 4 rfl) ?_
  obtain ⟨fs, he, hw⟩ := hw
  refine vx_calli (vx_runV (As := [.int x1, .int x2, .int x3, .int x4]) (rest := [.int 0, .ref x5]) ⟨hx, hb, hml, hown, hg⟩ (m_X6_pieces l hst G h0 mc ms x0 x1 x2 x3 x4 _ _ hw s.heap.size) (cwV 4 hg (x_gV km_L_38 ki_X6_pieces kz_X6_X6_pieces kn_X6 kk_X6_pieces) rfl rfl rfl (by decide +kernel) ⟨Nat.le_of_ble_eq_true rfl, Nat.le_of_ble_eq_true rfl⟩) ⟨x_blindx, x_recv hI hK he rfl rfl, x_prex hI hK hZ⟩ rfl rfl hl.1 rfl (lv_room (Nat.le_of_ble_eq_true rfl)) dL_pieces_9 ⟨show 0 + mc ≤ mc by omega, show 0 + ms ≤ ms by omega⟩) hI.2.2.1 (fun q _ hq => x_sub hI q hq) (x_sub hI) (fun q _ hq => x_sub hI q hq) (fun E ce q9 h H H1 locs ht _ _ hB _ _ hS hce hv hcl => ?_) (fun r h t H locs ht _ hw hB _ _ hS => ?_)
  · have hI := x_back hI ht hB.2 hS
    rcases hB.1 with ⟨hE, hw⟩ | ⟨hE, hw⟩
    · subst hE
      refine vx_catch hown [] (⟨0, 14, 17, 22⟩ : ExceptionTableEntry) [(⟨0, 14, 21, 13⟩ : ExceptionTableEntry)] (htab.trans rfl) (fun z hz => absurd hz (by simp)) rfl (by decide) (hg _ (at_cl _ (by decide +kernel))) (va_Nw.use rfl hZ.2.2.2.2.2.2.1) hce hv hcl ?_
      refine lv_astore (lv' := [(6, .ref q9), (0, .ref x0), (1, .int x1), (2, .int x2), (3, .int x3), (4, .int x4), (5, .ref x5)]) hx hb dL_pieces_17 hl (by decide) rfl (fun ls hl => ?_)
      refine lv_iconst (v := 1) hx hb dL_pieces_19 (by decide) ?_
      exact x_iret hx hb hr hlocks hI hw (show 0 + mc ≤ mc by omega) (show 0 + ms ≤ ms by omega) dL_pieces_20
    · subst hE
      refine vx_catch hown [(⟨0, 14, 17, 22⟩ : ExceptionTableEntry)] (⟨0, 14, 21, 13⟩ : ExceptionTableEntry) [] (htab.trans rfl) (fun z hz => ?_) rfl (by decide) (hg _ (at_cl _ (by decide +kernel))) (va_Nw.use rfl hZ.2.2.2.2.2.1) hce hv hcl ?_
      · simp only [List.mem_cons, List.not_mem_nil, or_false] at hz
        subst hz
        exact Or.inr ⟨by decide, EIS, hg _ (at_cl _ (by decide +kernel)), hC.2.1⟩
      · refine lv_astore (lv' := [(6, .ref q9), (0, .ref x0), (1, .int x1), (2, .int x2), (3, .int x3), (4, .int x4), (5, .ref x5)]) hx hb dL_pieces_21 hl (by decide) rfl (fun ls hl => ?_)
        refine lv_iconst (v := 2) hx hb dL_pieces_23 (by decide) ?_
        exact x_iret hx hb hr hlocks hI hw (show 0 + mc ≤ mc by omega) (show 0 + ms ≤ ms by omega) dL_pieces_24
  · have hI := x_back hI ht hB hS
    refine lv_i2l hx hb dL_pieces_12 rfl ?_
    obtain ⟨n, f, hf, hin, hw⟩ := hw
    refine x_last hx hb hK hI hf hin dL_pieces_13 (fun H locs hI => ?_)
    have hw := hw _ rfl
    refine lv_goto (tgt := 25) hx hb dL_pieces_14 (by decide) ?_
    refine lv_iconst (v := 0) hx hb dL_pieces_25 (by decide) ?_
    exact x_iret hx hb hr hlocks hI hw (show 0 + mc ≤ mc by omega) (show 0 + ms ≤ ms by omega) dL_pieces_26
-- ===== law: piece
abbrev rL_piece (mc ms : Nat) : Room := { frames := 9, cells := mc, slots := ms, locals := 221 }
def wp_L_piece (h0 : xH) (mc ms : Nat) (x0 : Nat) (x1 : Int32) (x2 : Int32) (x3 : Int32) (x4 : Int32) (x5 : Int32) (x6 : Nat) (post : Int32 → xH → Prop) : Prop := ∃ fs : List Value, h0 x0 = some (.inr (6, fs)) ∧ wp_X6_piece h0 mc ms x0 x1 x2 x3 x4 x5 (fun (r : Int32) h => ∃ (n : Nat) (f : Nat → Int64), h x6 = some (.inl (1, n, .inr (.inl f))) ∧ vp_in 0 n ∧ ∀ h1 : xH, h1 = x_up h x6 (.inl (1, n, .inr (.inl (vp_updL f (0 : Int32).toNatClampNeg ((r : Int32).toInt64))))) → post 0 h1) (fun E h => (E = EIS ∧ post 1 h) ∨ (E = EIA ∧ post 2 h))
set_option maxHeartbeats 4000000 in
set_option maxRecDepth 100000 in
theorem m_L_piece (l : Launch) (hst : l.stackTraces = false) (G : xG) (h0 : xH) (mc ms : Nat) (x0 : Nat) (x1 : Int32) (x2 : Int32) (x3 : Int32) (x4 : Int32) (x5 : Int32) (x6 : Nat) (post : Int32 → xH → Prop) (hw : wp_L_piece h0 mc ms x0 x1 x2 x3 x4 x5 x6 post) (sz : Nat) : Met l yL_piece (Cond.codeWith yL_piece cL_piece 8 (some .int) [(0, 16, 19, 22), (0, 16, 23, 13)] :: lg) (rL_piece mc ms) (x_Pw G [.ref x0, .int x1, .int x2, .int x3, .int x4, .int x5, .ref x6] h0 sz) (x_Qi G h0 sz post) mc ms (x_A h0 sz) := by
  refine x_ofWH (cc := cL_piece) (maxL := 8) (ret := some .int) (hh := [(0, 16, 19, 22), (0, 16, 23, 13)]) (by decide) rfl ?_
  intro p e s m args below meth c s₁ B hml hv
  obtain ⟨rfl, hsz, hR, hK, hZ, hC⟩ := hv
  subst hsz
  have hws : ∀ w ∈ Cond.codeWith yL_piece cL_piece 8 (some .int) [(0, 16, 19, 22), (0, 16, 23, 13)] :: lg, w.before _ s = true := atoms_spec (ws := Cond.codeWith yL_piece cL_piece 8 (some .int) [(0, 16, 19, 22), (0, 16, 23, 13)] :: lg) B.pre
  have htab : c.exceptionTable.toList = tableOf [(0, 16, 19, 22), (0, 16, 23, 13)] := vx_table (x := yX6_begin) B (hws _ List.mem_cons_self)
  have hg : ∀ w ∈ lg, w.before _ s = true := fun w hw => hws w (List.mem_cons_of_mem _ hw)
  have hx := B.exec
  have hb := B.bytes
  have hr := B.returns
  have hown := findClass_of_methodNamed B.named
  have hlocks := B.notSynchronized
  have hI : x_I G (x_A h0 s.heap.size) s.heap h0 s.heap [] := x_I.start hR
  have hl := lv_entry ([.ref x0, .int x1, .int x2, .int x3, .int x4, .int x5, .ref x6]) (n := 8) (Nat.le_of_ble_eq_true rfl)
  rw [lg_entry_eq]
  generalize (lg_sl ([.ref x0, .int x1, .int x2, .int x3, .int x4, .int x5, .ref x6]) ++ List.replicate (8 - (lg_sl ([.ref x0, .int x1, .int x2, .int x3, .int x4, .int x5, .ref x6])).length) Slot.unset).toArray = ls at hl ⊢
  have hl : lv_has ls 8 [(0, .ref x0), (1, .int x1), (2, .int x2), (3, .int x3), (4, .int x4), (5, .int x5), (6, .ref x6)] := hl
  refine lv_aload hx hb dL_piece_0 (lv_at hl 6 rfl) ?_
  refine lv_iconst (v := 0) hx hb dL_piece_2 (by decide) ?_
  refine lv_aload_n hx hb dL_piece_3 rfl (lv_at hl 0 rfl) ?_
  refine lv_iload_n hx hb dL_piece_4 rfl (lv_at hl 1 rfl) ?_
  refine lv_iload_n hx hb dL_piece_5 rfl (lv_at hl 2 rfl) ?_
  refine lv_iload_n hx hb dL_piece_6 rfl (lv_at hl 3 rfl) ?_
  refine lv_iload hx hb dL_piece_7 (lv_at hl 4 rfl) ?_
  refine lv_iload hx hb dL_piece_9 (lv_at hl 5 rfl) ?_
  obtain ⟨fs, he, hw⟩ := hw
  refine vx_calli (vx_runV (As := [.int x1, .int x2, .int x3, .int x4, .int x5]) (rest := [.int 0, .ref x6]) ⟨hx, hb, hml, hown, hg⟩ (m_X6_piece l hst G h0 mc ms x0 x1 x2 x3 x4 x5 _ _ hw s.heap.size) (cwV 5 hg (x_gV km_L_42 ki_X6_piece kz_X6_X6_piece kn_X6 kk_X6_piece) rfl rfl rfl (by decide +kernel) ⟨Nat.le_of_ble_eq_true rfl, Nat.le_of_ble_eq_true rfl⟩) ⟨x_blindx, x_recv hI hK he rfl rfl, x_prex hI hK hZ⟩ rfl rfl hl.1 rfl (lv_room (Nat.le_of_ble_eq_true rfl)) dL_piece_11 ⟨show 0 + mc ≤ mc by omega, show 0 + ms ≤ ms by omega⟩) hI.2.2.1 (fun q _ hq => x_sub hI q hq) (x_sub hI) (fun q _ hq => x_sub hI q hq) (fun E ce q9 h H H1 locs ht _ _ hB _ _ hS hce hv hcl => ?_) (fun r h t H locs ht _ hw hB _ _ hS => ?_)
  · have hI := x_back hI ht hB.2 hS
    rcases hB.1 with ⟨hE, hw⟩ | ⟨hE, hw⟩
    · subst hE
      refine vx_catch hown [] (⟨0, 16, 19, 22⟩ : ExceptionTableEntry) [(⟨0, 16, 23, 13⟩ : ExceptionTableEntry)] (htab.trans rfl) (fun z hz => absurd hz (by simp)) rfl (by decide) (hg _ (at_cl _ (by decide +kernel))) (va_Nw.use rfl hZ.2.2.2.2.2.2.1) hce hv hcl ?_
      refine lv_astore (lv' := [(7, .ref q9), (0, .ref x0), (1, .int x1), (2, .int x2), (3, .int x3), (4, .int x4), (5, .int x5), (6, .ref x6)]) hx hb dL_piece_19 hl (by decide) rfl (fun ls hl => ?_)
      refine lv_iconst (v := 1) hx hb dL_piece_21 (by decide) ?_
      exact x_iret hx hb hr hlocks hI hw (show 0 + mc ≤ mc by omega) (show 0 + ms ≤ ms by omega) dL_piece_22
    · subst hE
      refine vx_catch hown [(⟨0, 16, 19, 22⟩ : ExceptionTableEntry)] (⟨0, 16, 23, 13⟩ : ExceptionTableEntry) [] (htab.trans rfl) (fun z hz => ?_) rfl (by decide) (hg _ (at_cl _ (by decide +kernel))) (va_Nw.use rfl hZ.2.2.2.2.2.1) hce hv hcl ?_
      · simp only [List.mem_cons, List.not_mem_nil, or_false] at hz
        subst hz
        exact Or.inr ⟨by decide, EIS, hg _ (at_cl _ (by decide +kernel)), hC.2.1⟩
      · refine lv_astore (lv' := [(7, .ref q9), (0, .ref x0), (1, .int x1), (2, .int x2), (3, .int x3), (4, .int x4), (5, .int x5), (6, .ref x6)]) hx hb dL_piece_23 hl (by decide) rfl (fun ls hl => ?_)
        refine lv_iconst (v := 2) hx hb dL_piece_25 (by decide) ?_
        exact x_iret hx hb hr hlocks hI hw (show 0 + mc ≤ mc by omega) (show 0 + ms ≤ ms by omega) dL_piece_26
  · have hI := x_back hI ht hB hS
    refine lv_i2l hx hb dL_piece_14 rfl ?_
    obtain ⟨n, f, hf, hin, hw⟩ := hw
    refine x_last hx hb hK hI hf hin dL_piece_15 (fun H locs hI => ?_)
    have hw := hw _ rfl
    refine lv_goto (tgt := 27) hx hb dL_piece_16 (by decide) ?_
    refine lv_iconst (v := 0) hx hb dL_piece_27 (by decide) ?_
    exact x_iret hx hb hr hlocks hI hw (show 0 + mc ≤ mc by omega) (show 0 + ms ≤ ms by omega) dL_piece_28
-- ===== law: scaled
abbrev rL_scaled (mc ms : Nat) : Room := { frames := 8, cells := mc, slots := ms, locals := 193 }
def wp_L_scaled (h0 : xH) (mc ms : Nat) (x0 : Nat) (x1 : Int32) (x2 : Int32) (x3 : Int32) (x4 : Int32) (x5 : Nat) (post : Int32 → xH → Prop) : Prop := ∃ fs : List Value, h0 x0 = some (.inr (6, fs)) ∧ wp_X6_scaled h0 mc ms x0 x1 x2 x3 x4 (fun (r : Int64) h => ∃ (n : Nat) (f : Nat → Int64), h x5 = some (.inl (1, n, .inr (.inl f))) ∧ vp_in 0 n ∧ ∀ h1 : xH, h1 = x_up h x5 (.inl (1, n, .inr (.inl (vp_updL f (0 : Int32).toNatClampNeg (r))))) → post 0 h1) (fun E h => (E = EIS ∧ post 1 h) ∨ (E = EIA ∧ post 2 h))
set_option maxHeartbeats 4000000 in
set_option maxRecDepth 100000 in
theorem m_L_scaled (l : Launch) (hst : l.stackTraces = false) (G : xG) (h0 : xH) (mc ms : Nat) (x0 : Nat) (x1 : Int32) (x2 : Int32) (x3 : Int32) (x4 : Int32) (x5 : Nat) (post : Int32 → xH → Prop) (hw : wp_L_scaled h0 mc ms x0 x1 x2 x3 x4 x5 post) (sz : Nat) : Met l yL_scaled (Cond.codeWith yL_scaled cL_scaled 7 (some .int) [(0, 13, 16, 22), (0, 13, 20, 13)] :: lg) (rL_scaled mc ms) (x_Pw G [.ref x0, .int x1, .int x2, .int x3, .int x4, .ref x5] h0 sz) (x_Qi G h0 sz post) mc ms (x_A h0 sz) := by
  refine x_ofWH (cc := cL_scaled) (maxL := 7) (ret := some .int) (hh := [(0, 13, 16, 22), (0, 13, 20, 13)]) (by decide) rfl ?_
  intro p e s m args below meth c s₁ B hml hv
  obtain ⟨rfl, hsz, hR, hK, hZ, hC⟩ := hv
  subst hsz
  have hws : ∀ w ∈ Cond.codeWith yL_scaled cL_scaled 7 (some .int) [(0, 13, 16, 22), (0, 13, 20, 13)] :: lg, w.before _ s = true := atoms_spec (ws := Cond.codeWith yL_scaled cL_scaled 7 (some .int) [(0, 13, 16, 22), (0, 13, 20, 13)] :: lg) B.pre
  have htab : c.exceptionTable.toList = tableOf [(0, 13, 16, 22), (0, 13, 20, 13)] := vx_table (x := yX6_begin) B (hws _ List.mem_cons_self)
  have hg : ∀ w ∈ lg, w.before _ s = true := fun w hw => hws w (List.mem_cons_of_mem _ hw)
  have hx := B.exec
  have hb := B.bytes
  have hr := B.returns
  have hown := findClass_of_methodNamed B.named
  have hlocks := B.notSynchronized
  have hI : x_I G (x_A h0 s.heap.size) s.heap h0 s.heap [] := x_I.start hR
  have hl := lv_entry ([.ref x0, .int x1, .int x2, .int x3, .int x4, .ref x5]) (n := 7) (Nat.le_of_ble_eq_true rfl)
  rw [lg_entry_eq]
  generalize (lg_sl ([.ref x0, .int x1, .int x2, .int x3, .int x4, .ref x5]) ++ List.replicate (7 - (lg_sl ([.ref x0, .int x1, .int x2, .int x3, .int x4, .ref x5])).length) Slot.unset).toArray = ls at hl ⊢
  have hl : lv_has ls 7 [(0, .ref x0), (1, .int x1), (2, .int x2), (3, .int x3), (4, .int x4), (5, .ref x5)] := hl
  refine lv_aload hx hb dL_scaled_0 (lv_at hl 5 rfl) ?_
  refine lv_iconst (v := 0) hx hb dL_scaled_2 (by decide) ?_
  refine lv_aload_n hx hb dL_scaled_3 rfl (lv_at hl 0 rfl) ?_
  refine lv_iload_n hx hb dL_scaled_4 rfl (lv_at hl 1 rfl) ?_
  refine lv_iload_n hx hb dL_scaled_5 rfl (lv_at hl 2 rfl) ?_
  refine lv_iload_n hx hb dL_scaled_6 rfl (lv_at hl 3 rfl) ?_
  refine lv_iload hx hb dL_scaled_7 (lv_at hl 4 rfl) ?_
  obtain ⟨fs, he, hw⟩ := hw
  refine vx_calll (vx_runV (As := [.int x1, .int x2, .int x3, .int x4]) (rest := [.int 0, .ref x5]) ⟨hx, hb, hml, hown, hg⟩ (m_X6_scaled l hst G h0 mc ms x0 x1 x2 x3 x4 _ _ hw s.heap.size) (cwV 4 hg (x_gV km_L_46 ki_X6_scaled kz_X6_X6_scaled kn_X6 kk_X6_scaled) rfl rfl rfl (by decide +kernel) ⟨Nat.le_of_ble_eq_true rfl, Nat.le_of_ble_eq_true rfl⟩) ⟨x_blindx, x_recv hI hK he rfl rfl, x_prex hI hK hZ⟩ rfl rfl hl.1 rfl (lv_room (Nat.le_of_ble_eq_true rfl)) dL_scaled_9 ⟨show 0 + mc ≤ mc by omega, show 0 + ms ≤ ms by omega⟩) hI.2.2.1 (fun q _ hq => x_sub hI q hq) (x_sub hI) (fun q _ hq => x_sub hI q hq) (fun E ce q9 h H H1 locs ht _ _ hB _ _ hS hce hv hcl => ?_) (fun r h t H locs ht _ hw hB _ _ hS => ?_)
  · have hI := x_back hI ht hB.2 hS
    rcases hB.1 with ⟨hE, hw⟩ | ⟨hE, hw⟩
    · subst hE
      refine vx_catch hown [] (⟨0, 13, 16, 22⟩ : ExceptionTableEntry) [(⟨0, 13, 20, 13⟩ : ExceptionTableEntry)] (htab.trans rfl) (fun z hz => absurd hz (by simp)) rfl (by decide) (hg _ (at_cl _ (by decide +kernel))) (va_Nw.use rfl hZ.2.2.2.2.2.2.1) hce hv hcl ?_
      refine lv_astore (lv' := [(6, .ref q9), (0, .ref x0), (1, .int x1), (2, .int x2), (3, .int x3), (4, .int x4), (5, .ref x5)]) hx hb dL_scaled_16 hl (by decide) rfl (fun ls hl => ?_)
      refine lv_iconst (v := 1) hx hb dL_scaled_18 (by decide) ?_
      exact x_iret hx hb hr hlocks hI hw (show 0 + mc ≤ mc by omega) (show 0 + ms ≤ ms by omega) dL_scaled_19
    · subst hE
      refine vx_catch hown [(⟨0, 13, 16, 22⟩ : ExceptionTableEntry)] (⟨0, 13, 20, 13⟩ : ExceptionTableEntry) [] (htab.trans rfl) (fun z hz => ?_) rfl (by decide) (hg _ (at_cl _ (by decide +kernel))) (va_Nw.use rfl hZ.2.2.2.2.2.1) hce hv hcl ?_
      · simp only [List.mem_cons, List.not_mem_nil, or_false] at hz
        subst hz
        exact Or.inr ⟨by decide, EIS, hg _ (at_cl _ (by decide +kernel)), hC.2.1⟩
      · refine lv_astore (lv' := [(6, .ref q9), (0, .ref x0), (1, .int x1), (2, .int x2), (3, .int x3), (4, .int x4), (5, .ref x5)]) hx hb dL_scaled_20 hl (by decide) rfl (fun ls hl => ?_)
        refine lv_iconst (v := 2) hx hb dL_scaled_22 (by decide) ?_
        exact x_iret hx hb hr hlocks hI hw (show 0 + mc ≤ mc by omega) (show 0 + ms ≤ ms by omega) dL_scaled_23
  · have hI := x_back hI ht hB hS
    obtain ⟨n, f, hf, hin, hw⟩ := hw
    refine x_last hx hb hK hI hf hin dL_scaled_12 (fun H locs hI => ?_)
    have hw := hw _ rfl
    refine lv_goto (tgt := 24) hx hb dL_scaled_13 (by decide) ?_
    refine lv_iconst (v := 0) hx hb dL_scaled_24 (by decide) ?_
    exact x_iret hx hb hr hlocks hI hw (show 0 + mc ≤ mc by omega) (show 0 + ms ≤ ms by omega) dL_scaled_25
-- ===== law: compare
abbrev rL_compare (mc ms : Nat) : Room := { frames := 8, cells := mc, slots := ms, locals := 131 }
def wp_L_compare (h0 : xH) (mc ms : Nat) (x0 : Nat) (x1 : Int32) (x2 : Int32) (x3 : Int32) (x4 : Int32) (x5 : Int32) (x6 : Nat) (post : Int32 → xH → Prop) : Prop := ∃ fs : List Value, h0 x0 = some (.inr (6, fs)) ∧ wp_X6_compare h0 mc ms x0 x1 x2 x3 x4 x5 (fun (r : Int32) h => ∃ (n : Nat) (f : Nat → Int64), h x6 = some (.inl (1, n, .inr (.inl f))) ∧ vp_in 0 n ∧ ∀ h1 : xH, h1 = x_up h x6 (.inl (1, n, .inr (.inl (vp_updL f (0 : Int32).toNatClampNeg ((r : Int32).toInt64))))) → post 0 h1) (fun E h => (E = EIS ∧ post 1 h) ∨ (E = EIA ∧ post 2 h))
set_option maxHeartbeats 4000000 in
set_option maxRecDepth 100000 in
theorem m_L_compare (l : Launch) (hst : l.stackTraces = false) (G : xG) (h0 : xH) (mc ms : Nat) (x0 : Nat) (x1 : Int32) (x2 : Int32) (x3 : Int32) (x4 : Int32) (x5 : Int32) (x6 : Nat) (post : Int32 → xH → Prop) (hw : wp_L_compare h0 mc ms x0 x1 x2 x3 x4 x5 x6 post) (sz : Nat) : Met l yL_compare (Cond.codeWith yL_compare cL_compare 8 (some .int) [(0, 16, 19, 22), (0, 16, 23, 13)] :: lg) (rL_compare mc ms) (x_Pw G [.ref x0, .int x1, .int x2, .int x3, .int x4, .int x5, .ref x6] h0 sz) (x_Qi G h0 sz post) mc ms (x_A h0 sz) := by
  refine x_ofWH (cc := cL_compare) (maxL := 8) (ret := some .int) (hh := [(0, 16, 19, 22), (0, 16, 23, 13)]) (by decide) rfl ?_
  intro p e s m args below meth c s₁ B hml hv
  obtain ⟨rfl, hsz, hR, hK, hZ, hC⟩ := hv
  subst hsz
  have hws : ∀ w ∈ Cond.codeWith yL_compare cL_compare 8 (some .int) [(0, 16, 19, 22), (0, 16, 23, 13)] :: lg, w.before _ s = true := atoms_spec (ws := Cond.codeWith yL_compare cL_compare 8 (some .int) [(0, 16, 19, 22), (0, 16, 23, 13)] :: lg) B.pre
  have htab : c.exceptionTable.toList = tableOf [(0, 16, 19, 22), (0, 16, 23, 13)] := vx_table (x := yX6_begin) B (hws _ List.mem_cons_self)
  have hg : ∀ w ∈ lg, w.before _ s = true := fun w hw => hws w (List.mem_cons_of_mem _ hw)
  have hx := B.exec
  have hb := B.bytes
  have hr := B.returns
  have hown := findClass_of_methodNamed B.named
  have hlocks := B.notSynchronized
  have hI : x_I G (x_A h0 s.heap.size) s.heap h0 s.heap [] := x_I.start hR
  have hl := lv_entry ([.ref x0, .int x1, .int x2, .int x3, .int x4, .int x5, .ref x6]) (n := 8) (Nat.le_of_ble_eq_true rfl)
  rw [lg_entry_eq]
  generalize (lg_sl ([.ref x0, .int x1, .int x2, .int x3, .int x4, .int x5, .ref x6]) ++ List.replicate (8 - (lg_sl ([.ref x0, .int x1, .int x2, .int x3, .int x4, .int x5, .ref x6])).length) Slot.unset).toArray = ls at hl ⊢
  have hl : lv_has ls 8 [(0, .ref x0), (1, .int x1), (2, .int x2), (3, .int x3), (4, .int x4), (5, .int x5), (6, .ref x6)] := hl
  refine lv_aload hx hb dL_compare_0 (lv_at hl 6 rfl) ?_
  refine lv_iconst (v := 0) hx hb dL_compare_2 (by decide) ?_
  refine lv_aload_n hx hb dL_compare_3 rfl (lv_at hl 0 rfl) ?_
  refine lv_iload_n hx hb dL_compare_4 rfl (lv_at hl 1 rfl) ?_
  refine lv_iload_n hx hb dL_compare_5 rfl (lv_at hl 2 rfl) ?_
  refine lv_iload_n hx hb dL_compare_6 rfl (lv_at hl 3 rfl) ?_
  refine lv_iload hx hb dL_compare_7 (lv_at hl 4 rfl) ?_
  refine lv_iload hx hb dL_compare_9 (lv_at hl 5 rfl) ?_
  obtain ⟨fs, he, hw⟩ := hw
  refine vx_calli (vx_runV (As := [.int x1, .int x2, .int x3, .int x4, .int x5]) (rest := [.int 0, .ref x6]) ⟨hx, hb, hml, hown, hg⟩ (m_X6_compare l hst G h0 mc ms x0 x1 x2 x3 x4 x5 _ _ hw s.heap.size) (cwV 5 hg (x_gV km_L_50 ki_X6_compare kz_X6_X6_compare kn_X6 kk_X6_compare) rfl rfl rfl (by decide +kernel) ⟨Nat.le_of_ble_eq_true rfl, Nat.le_of_ble_eq_true rfl⟩) ⟨x_blindx, x_recv hI hK he rfl rfl, x_prex hI hK hZ⟩ rfl rfl hl.1 rfl (lv_room (Nat.le_of_ble_eq_true rfl)) dL_compare_11 ⟨show 0 + mc ≤ mc by omega, show 0 + ms ≤ ms by omega⟩) hI.2.2.1 (fun q _ hq => x_sub hI q hq) (x_sub hI) (fun q _ hq => x_sub hI q hq) (fun E ce q9 h H H1 locs ht _ _ hB _ _ hS hce hv hcl => ?_) (fun r h t H locs ht _ hw hB _ _ hS => ?_)
  · have hI := x_back hI ht hB.2 hS
    rcases hB.1 with ⟨hE, hw⟩ | ⟨hE, hw⟩
    · subst hE
      refine vx_catch hown [] (⟨0, 16, 19, 22⟩ : ExceptionTableEntry) [(⟨0, 16, 23, 13⟩ : ExceptionTableEntry)] (htab.trans rfl) (fun z hz => absurd hz (by simp)) rfl (by decide) (hg _ (at_cl _ (by decide +kernel))) (va_Nw.use rfl hZ.2.2.2.2.2.2.1) hce hv hcl ?_
      refine lv_astore (lv' := [(7, .ref q9), (0, .ref x0), (1, .int x1), (2, .int x2), (3, .int x3), (4, .int x4), (5, .int x5), (6, .ref x6)]) hx hb dL_compare_19 hl (by decide) rfl (fun ls hl => ?_)
      refine lv_iconst (v := 1) hx hb dL_compare_21 (by decide) ?_
      exact x_iret hx hb hr hlocks hI hw (show 0 + mc ≤ mc by omega) (show 0 + ms ≤ ms by omega) dL_compare_22
    · subst hE
      refine vx_catch hown [(⟨0, 16, 19, 22⟩ : ExceptionTableEntry)] (⟨0, 16, 23, 13⟩ : ExceptionTableEntry) [] (htab.trans rfl) (fun z hz => ?_) rfl (by decide) (hg _ (at_cl _ (by decide +kernel))) (va_Nw.use rfl hZ.2.2.2.2.2.1) hce hv hcl ?_
      · simp only [List.mem_cons, List.not_mem_nil, or_false] at hz
        subst hz
        exact Or.inr ⟨by decide, EIS, hg _ (at_cl _ (by decide +kernel)), hC.2.1⟩
      · refine lv_astore (lv' := [(7, .ref q9), (0, .ref x0), (1, .int x1), (2, .int x2), (3, .int x3), (4, .int x4), (5, .int x5), (6, .ref x6)]) hx hb dL_compare_23 hl (by decide) rfl (fun ls hl => ?_)
        refine lv_iconst (v := 2) hx hb dL_compare_25 (by decide) ?_
        exact x_iret hx hb hr hlocks hI hw (show 0 + mc ≤ mc by omega) (show 0 + ms ≤ ms by omega) dL_compare_26
  · have hI := x_back hI ht hB hS
    refine lv_i2l hx hb dL_compare_14 rfl ?_
    obtain ⟨n, f, hf, hin, hw⟩ := hw
    refine x_last hx hb hK hI hf hin dL_compare_15 (fun H locs hI => ?_)
    have hw := hw _ rfl
    refine lv_goto (tgt := 27) hx hb dL_compare_16 (by decide) ?_
    refine lv_iconst (v := 0) hx hb dL_compare_27 (by decide) ?_
    exact x_iret hx hb hr hlocks hI hw (show 0 + mc ≤ mc by omega) (show 0 + ms ≤ ms by omega) dL_compare_28
end XL
