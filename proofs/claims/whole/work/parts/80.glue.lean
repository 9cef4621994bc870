/-! ===== what stands at the law's entry (own work over the kit's rows) ===== -/
theorem g_int {args : Array Value} {s : State} (h : (Cond.arrayClass .int).before args s = true) : ∃ cA : ClassId, ArrOfT s cA .int ∧ va_RA s cA .int := by
  obtain ⟨cA, kA, comp, h1, h2, h3⟩ := Cond.arrayClass_spec h
  exact ⟨cA, fun n z => ⟨fun k h => (by cases h), kA, h2, comp, h3⟩, h1⟩
theorem g_long {args : Array Value} {s : State} (h : (Cond.arrayClass .long).before args s = true) : ∃ cA : ClassId, ArrOfT s cA .long ∧ va_RA s cA .long := by
  obtain ⟨cA, kA, comp, h1, h2, h3⟩ := Cond.arrayClass_spec h
  exact ⟨cA, fun n z => ⟨fun k h => (by cases h), kA, h2, comp, h3⟩, h1⟩
theorem g_obj {args : Array Value} {s : State} {C : String} (h : (Cond.arrayOver (.object C)).before args s = true) : ∃ cA : ClassId, ArrOfT s cA (.object C) ∧ va_RA s cA (.object C) := by
  obtain ⟨comp, c, k, h1, h2, h3, h4, h5⟩ := Cond.arrayOver_spec h
  exact ⟨c, fun n z => ⟨fun k h => (by cases h), k, h3, comp, h4⟩, k, comp, h3, h4, h1, h5⟩
set_option maxRecDepth 100000 in
set_option maxHeartbeats 4000000 in
theorem gw_K : ∀ w ∈ u_ws RX0 TX0 3 ++ u_ws RX1 TX1 2 ++ u_ws RX2 TX2 4 ++ u_ws RX3 TX3 2 ++ u_ws RX4 TX4 5 ++ u_ws RX5 TX5 3 ++ u_ws RX6 TX6 10 ++ u_ws RX7 TX7 12 ++ [Cond.instantiable RX0 3, .instantiable RX1 2, .instantiable RX2 4, .instantiable RX3 2, .instantiable RX4 5, .instantiable RX5 3, .instantiable RX6 10, .instantiable RX7 12, .arrayClass .int, .arrayClass .long, .castable "[I" "java/lang/Cloneable"], w ∈ lw_tbl := by decide +kernel
set_option maxRecDepth 100000 in
set_option maxHeartbeats 4000000 in
theorem gw_N : ∀ w ∈ [Cond.laysStatic Bundle.tN "UNASSIGNED_STACK" Bundle.steD, .laysStatic Bundle.tN "SUPPRESSED_SENTINEL" Bundle.listD, .initialized Bundle.tN, .declares ⟨"java/lang/RuntimeException", "<init>", "()V"⟩, .declares ⟨"java/lang/Exception", "<init>", "()V"⟩, .declares ⟨"java/lang/Throwable", "<init>", "()V"⟩, .castable EIA EIA, .castable EIS EIS, .castable EAR EAR], w ∈ lw_tbl := by decide +kernel
set_option maxRecDepth 100000 in
set_option maxHeartbeats 4000000 in
theorem gw_C : ∀ w ∈ [Cond.isRef (.static Bundle.tN "UNASSIGNED_STACK" Bundle.steD), .isRef (.static Bundle.tN "SUPPRESSED_SENTINEL" Bundle.listD), .not (.castable EIS EIA), .not (.castable EIA EIS), .not (.castable EAR EIA), .not (.castable EAR EIS)], w ∈ flatC (Jvm.Cond.and given_1 narrow_1) := by decide +kernel
theorem g_K {args : Array Value} {s : State} (hts : ∀ w ∈ lw_tbl, w.before args s = true) : ∃ G : xG, x_K G s := by
  have hk : ∀ w ∈ u_ws RX0 TX0 3 ++ u_ws RX1 TX1 2 ++ u_ws RX2 TX2 4 ++ u_ws RX3 TX3 2 ++ u_ws RX4 TX4 5 ++ u_ws RX5 TX5 3 ++ u_ws RX6 TX6 10 ++ u_ws RX7 TX7 12 ++ [Cond.instantiable RX0 3, .instantiable RX1 2, .instantiable RX2 4, .instantiable RX3 2, .instantiable RX4 5, .instantiable RX5 3, .instantiable RX6 10, .instantiable RX7 12, .arrayClass .int, .arrayClass .long, .castable "[I" "java/lang/Cloneable"], w.before args s = true := fun w hw => hts w (gw_K w hw)
  have hl : ∀ w ∈ [Cond.instantiable RX0 3, .instantiable RX1 2, .instantiable RX2 4, .instantiable RX3 2, .instantiable RX4 5, .instantiable RX5 3, .instantiable RX6 10, .instantiable RX7 12, .arrayClass .int, .arrayClass .long, .castable "[I" "java/lang/Cloneable"], w.before args s = true := fun w hw => hk w (List.mem_append_right _ hw)
  have hi : ∀ (i : Nat) (w : Cond), [Cond.instantiable RX0 3, .instantiable RX1 2, .instantiable RX2 4, .instantiable RX3 2, .instantiable RX4 5, .instantiable RX5 3, .instantiable RX6 10, .instantiable RX7 12, .arrayClass .int, .arrayClass .long, .castable "[I" "java/lang/Cloneable"][i]? = some w → w.before args s = true := fun i w hw => hl w (List.mem_of_getElem? hw)
  obtain ⟨c0, i0, k0⟩ := u_known (C := RX0) (T := TX0) (N := 3) (n := 3) hk (fun w hw => by simp only [List.mem_append]; exact Or.inl (Or.inl (Or.inl (Or.inl (Or.inl (Or.inl (Or.inl (Or.inl hw)))))))) (hi 0 _ rfl)
  obtain ⟨c1, i1, k1⟩ := u_known (C := RX1) (T := TX1) (N := 2) (n := 2) hk (fun w hw => by simp only [List.mem_append]; exact Or.inl (Or.inl (Or.inl (Or.inl (Or.inl (Or.inl (Or.inl (Or.inr hw)))))))) (hi 1 _ rfl)
  obtain ⟨c2, i2, k2⟩ := u_known (C := RX2) (T := TX2) (N := 4) (n := 4) hk (fun w hw => by simp only [List.mem_append]; exact Or.inl (Or.inl (Or.inl (Or.inl (Or.inl (Or.inl (Or.inr hw))))))) (hi 2 _ rfl)
  obtain ⟨c3, i3, k3⟩ := u_known (C := RX3) (T := TX3) (N := 2) (n := 2) hk (fun w hw => by simp only [List.mem_append]; exact Or.inl (Or.inl (Or.inl (Or.inl (Or.inl (Or.inr hw)))))) (hi 3 _ rfl)
  obtain ⟨c4, i4, k4⟩ := u_known (C := RX4) (T := TX4) (N := 5) (n := 5) hk (fun w hw => by simp only [List.mem_append]; exact Or.inl (Or.inl (Or.inl (Or.inl (Or.inr hw))))) (hi 4 _ rfl)
  obtain ⟨c5, i5, k5⟩ := u_known (C := RX5) (T := TX5) (N := 3) (n := 3) hk (fun w hw => by simp only [List.mem_append]; exact Or.inl (Or.inl (Or.inl (Or.inr hw)))) (hi 5 _ rfl)
  obtain ⟨c6, i6, k6⟩ := u_known (C := RX6) (T := TX6) (N := 10) (n := 10) hk (fun w hw => by simp only [List.mem_append]; exact Or.inl (Or.inl (Or.inr hw))) (hi 6 _ rfl)
  obtain ⟨c7, i7, k7⟩ := u_known (C := RX7) (T := TX7) (N := 12) (n := 12) hk (fun w hw => by simp only [List.mem_append]; exact Or.inl (Or.inr hw)) (hi 7 _ rfl)
  obtain ⟨a0, b0, d0⟩ := g_int (hi 8 _ rfl)
  obtain ⟨a1, b1, d1⟩ := g_long (hi 9 _ rfl)
  obtain ⟨a2, b2, d2⟩ := g_obj (C := RX5) (hts _ ko_X5)
  obtain ⟨a3, b3, d3⟩ := g_obj (C := RX0) (hts _ ko_X0)
  obtain ⟨a4, b4, d4⟩ := g_obj (C := RX2) (hts _ ko_X2)
  refine ⟨((fun c => match c with
    | 0 => c0
    | 1 => c1
    | 2 => c2
    | 3 => c3
    | 4 => c4
    | 5 => c5
    | 6 => c6
    | _ => c7, fun c => match c with
    | 0 => i0
    | 1 => i1
    | 2 => i2
    | 3 => i3
    | 4 => i4
    | 5 => i5
    | 6 => i6
    | _ => i7), fun k => match k with
    | 0 => a0
    | 1 => a1
    | 2 => a2
    | 3 => a3
    | _ => a4), ⟨fun c q hq => ?_, fun k q hk => ?_⟩, va_AO.of (hts _ ko_X5), va_AO.of (hts _ ko_X0), va_AO.of (hts _ ko_X2), va_Nw.of rfl (hi 10 _ rfl)⟩
  · match c, hq with
    | 0, hq => cases hq; exact k0
    | 1, hq => cases hq; exact k1
    | 2, hq => cases hq; exact k2
    | 3, hq => cases hq; exact k3
    | 4, hq => cases hq; exact k4
    | 5, hq => cases hq; exact k5
    | 6, hq => cases hq; exact k6
    | 7, hq => cases hq; exact k7
    | c + 8, hq => cases hq
  · match k, hk with
    | 0, hk => cases hk; exact ⟨b0, d0⟩
    | 1, hk => cases hk; exact ⟨b1, d1⟩
    | 2, hk => cases hk; exact ⟨b2, d2⟩
    | 3, hk => cases hk; exact ⟨b3, d3⟩
    | 4, hk => cases hk; exact ⟨b4, d4⟩
    | k + 5, hk => cases hk
theorem g_Z {args : Array Value} {s : State} (hts : ∀ w ∈ lw_tbl, w.before args s = true) (hgv : (Jvm.Cond.and given_1 narrow_1).before args s = true) : x_Z hN s ∧ x_C s := by
  have hs := flat_of_before _ hgv
  have hA : ∀ a : Nat, a < s.heap.size → ¬ x_A hN s.heap.size a := by
    intro a ha h
    rcases h with ⟨e, he⟩ | h
    · cases he
    · omega
  have n : ∀ (i : Nat) (w : Cond), [Cond.laysStatic Bundle.tN "UNASSIGNED_STACK" Bundle.steD, .laysStatic Bundle.tN "SUPPRESSED_SENTINEL" Bundle.listD, .initialized Bundle.tN, .declares ⟨"java/lang/RuntimeException", "<init>", "()V"⟩, .declares ⟨"java/lang/Exception", "<init>", "()V"⟩, .declares ⟨"java/lang/Throwable", "<init>", "()V"⟩, .castable EIA EIA, .castable EIS EIS, .castable EAR EAR][i]? = some w → w.before args s = true := fun i w hw => hts w (gw_N w (List.mem_of_getElem? hw))
  have c : ∀ (i : Nat) (w : Cond), [Cond.isRef (.static Bundle.tN "UNASSIGNED_STACK" Bundle.steD), .isRef (.static Bundle.tN "SUPPRESSED_SENTINEL" Bundle.listD), .not (.castable EIS EIA), .not (.castable EIA EIS), .not (.castable EAR EIA), .not (.castable EAR EIS)][i]? = some w → w.before args s = true := fun i w hw => hs w (gw_C w (List.mem_of_getElem? hw))
  exact ⟨⟨vx_Zqof (n 0 _ rfl) (n 2 _ rfl) (c 0 _ rfl) hA, vx_Zqof (n 1 _ rfl) (n 2 _ rfl) (c 1 _ rfl) hA, va_Nw.of rfl (n 3 _ rfl), va_Nw.of rfl (n 4 _ rfl), va_Nw.of rfl (n 5 _ rfl), va_Nw.of rfl (n 6 _ rfl), va_Nw.of rfl (n 7 _ rfl), va_Nw.of rfl (n 8 _ rfl)⟩, va_Nc.of (c 2 _ rfl), va_Nc.of (c 3 _ rfl), va_Nc.of (c 4 _ rfl), va_Nc.of (c 5 _ rfl)⟩
theorem law_CL {p : Program} {l : Launch} {s : State} {m : MethodId} {meth : Method} {c : Code} {b L : Nat} {xs : Nat → Int32} (hst : l.stackTraces = false) (C0 : lw_At p s m meth c b L xs) : ∃ G : xG, CL p l s m meth c G b L xs := by
  obtain ⟨h1, h2, h3, h4, h5, h6, h7, h8, h9, h10⟩ := C0
  obtain ⟨G, hK⟩ := g_K h6
  obtain ⟨hZ, hC⟩ := g_Z h6 h10
  refine ⟨G, h1, h2, h3, h4, h5, fun w hw => h6 w (List.mem_filter.mp hw).1, h9, hK, hZ, hC, hst, h7, h8, ?_⟩
  rintro (⟨e, he⟩ | h)
  · cases he
  · omega
