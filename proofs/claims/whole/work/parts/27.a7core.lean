/-! ===== the reference's world as a piece of the abstract heap (own work) ===== -/
theorem Met.imp {l : Launch} {y : MethodName} {ws : List Cond} {rm : Room} {Pc Pc' : Array Value → State → Prop} {Qc Qc' : Array Value → State → Outcome → State → Prop} {mc ms : Nat} {free free' : Addr → Prop} (h : Met l y ws rm Pc Qc mc ms free) (h1 : ∀ a s, Pc' a s → Pc a s) (h2 : ∀ a s o t, Pc' a s → Qc a s o t → Qc' a s o t) (h3 : ∀ q, free q → free' q) : Met l y ws rm Pc' Qc' mc ms free' := by
  intro p e ha hc hk s m args below hf happ hP hK
  obtain ⟨n, o, a1, a2, a3, a4, L, a5, a6⟩ := h p e ha hc hk s m args below hf happ (h1 _ _ hP) hK
  exact ⟨n, o, a1, a2, a3, h2 _ _ _ _ hP a4, L, a5, fun q hq => h3 _ (a6 q hq)⟩
def R7 (h : xH) (q : Nat → Nat) (th sz sd ss pr me : Int32) (ab be pi le sg wo : Nat → Int32) : Prop :=
  h (q 0) = some (.inr (7, [.int th, .int sz, .ref (q 1), .ref (q 2), .int sd, .int ss, .int pr, .int me, .ref (q 3), .ref (q 4), .ref (q 5), .ref (q 6)])) ∧ h (q 1) = some (.inl (0, 40, .inl ab)) ∧ h (q 2) = some (.inl (0, 40, .inl be)) ∧ h (q 3) = some (.inl (0, 96000, .inl pi)) ∧ h (q 4) = some (.inl (0, 64, .inl le)) ∧ h (q 5) = some (.inl (0, 24, .inl sg)) ∧ h (q 6) = some (.inl (0, 3010, .inl wo))
theorem a7_pre {G : xG} {h : xH} {H : Heap} {q : Nat → Nat} {th sz sd ss pr me : Int32} {ab be pi le sg wo : Nat → Int32} (hR : x_R G h H) (h7 : R7 h q th sz sd ss pr me ab be pi le sg wo) : va_P G.1 vwCl (w7 (G.2 0) q th sz sd ss pr me ab be pi le sg wo) H := by
  obtain ⟨h0, h1, h2, h3, h4, h5, h6⟩ := h7
  intro k y hk
  match k, hk with
  | 0, hk => cases hk; exact hR _ _ h0
  | 1, hk => cases hk; exact hR _ _ h1
  | 2, hk => cases hk; exact hR _ _ h2
  | 3, hk => cases hk; exact hR _ _ h3
  | 4, hk => cases hk; exact hR _ _ h4
  | 5, hk => cases hk; exact hR _ _ h5
  | 6, hk => cases hk; exact hR _ _ h6
  | k + 7, hk => simp [w7] at hk
theorem a7_free {h : xH} {q : Nat → Nat} {th sz sd ss pr me : Int32} {ab be pi le sg wo : Nat → Int32} {n b : Nat} (h7 : R7 h q th sz sd ss pr me ab be pi le sg wo) (hb : A7 q b) : x_A h n b := by
  obtain ⟨h0, h1, h2, h3, h4, h5, h6⟩ := h7
  obtain ⟨k, hk, rfl⟩ := hb
  refine Or.inl ?_
  match k, hk with
  | 0, _ => exact ⟨_, h0⟩
  | 1, _ => exact ⟨_, h1⟩
  | 2, _ => exact ⟨_, h2⟩
  | 3, _ => exact ⟨_, h3⟩
  | 4, _ => exact ⟨_, h4⟩
  | 5, _ => exact ⟨_, h5⟩
  | 6, _ => exact ⟨_, h6⟩
/-- the heap with the reference's seven cells as given -/
def up7 (h : xH) (q : Nat → Nat) (th sz sd ss pr me : Int32) (ab be pi le sg wo : Nat → Int32) : xH :=
  x_up (x_up (x_up (x_up (x_up (x_up (x_up h (q 0) (.inr (7, [.int th, .int sz, .ref (q 1), .ref (q 2), .int sd, .int ss, .int pr, .int me, .ref (q 3), .ref (q 4), .ref (q 5), .ref (q 6)]))) (q 1) (.inl (0, 40, .inl ab))) (q 2) (.inl (0, 40, .inl be))) (q 3) (.inl (0, 96000, .inl pi))) (q 4) (.inl (0, 64, .inl le))) (q 5) (.inl (0, 24, .inl sg))) (q 6) (.inl (0, 3010, .inl wo))
theorem up7_R {h : xH} {q : Nat → Nat} {th sz sd ss pr me : Int32} {ab be pi le sg wo : Nat → Int32} (hap : ap7 q) : R7 (up7 h q th sz sd ss pr me ab be pi le sg wo) q th sz sd ss pr me ab be pi le sg wo := by
  have ne : ∀ i j : Nat, i < 7 → j < 7 → i ≠ j → q i ≠ q j := fun i j hi hj hij w => hij (hap i j hi hj w)
  unfold up7
  refine ⟨?_, ?_, ?_, ?_, ?_, ?_, ?_⟩
  · rw [x_up_n (ne 0 6 (by decide) (by decide) (by decide)), x_up_n (ne 0 5 (by decide) (by decide) (by decide)), x_up_n (ne 0 4 (by decide) (by decide) (by decide)), x_up_n (ne 0 3 (by decide) (by decide) (by decide)), x_up_n (ne 0 2 (by decide) (by decide) (by decide)), x_up_n (ne 0 1 (by decide) (by decide) (by decide)), x_up_s]
  · rw [x_up_n (ne 1 6 (by decide) (by decide) (by decide)), x_up_n (ne 1 5 (by decide) (by decide) (by decide)), x_up_n (ne 1 4 (by decide) (by decide) (by decide)), x_up_n (ne 1 3 (by decide) (by decide) (by decide)), x_up_n (ne 1 2 (by decide) (by decide) (by decide)), x_up_s]
  · rw [x_up_n (ne 2 6 (by decide) (by decide) (by decide)), x_up_n (ne 2 5 (by decide) (by decide) (by decide)), x_up_n (ne 2 4 (by decide) (by decide) (by decide)), x_up_n (ne 2 3 (by decide) (by decide) (by decide)), x_up_s]
  · rw [x_up_n (ne 3 6 (by decide) (by decide) (by decide)), x_up_n (ne 3 5 (by decide) (by decide) (by decide)), x_up_n (ne 3 4 (by decide) (by decide) (by decide)), x_up_s]
  · rw [x_up_n (ne 4 6 (by decide) (by decide) (by decide)), x_up_n (ne 4 5 (by decide) (by decide) (by decide)), x_up_s]
  · rw [x_up_n (ne 5 6 (by decide) (by decide) (by decide)), x_up_s]
  · rw [x_up_s]
theorem up7_n {h : xH} {q : Nat → Nat} {th sz sd ss pr me : Int32} {ab be pi le sg wo : Nat → Int32} {b : Nat} (hb : ¬ A7 q b) : up7 h q th sz sd ss pr me ab be pi le sg wo b = h b := by
  have ne : ∀ k, k < 7 → b ≠ q k := fun k hk w => hb ⟨k, hk, w⟩
  unfold up7
  rw [x_up_n (ne 6 (by decide)), x_up_n (ne 5 (by decide)), x_up_n (ne 4 (by decide)), x_up_n (ne 3 (by decide)), x_up_n (ne 2 (by decide)), x_up_n (ne 1 (by decide)), x_up_n (ne 0 (by decide))]
theorem a7_back {G : xG} {h0 : xH} {st t : State} {q : Nat → Nat} {th sz sd ss pr me th' sz' sd' ss' pr' me' : Int32} {ab be pi le sg wo ab' be' pi' le' sg' wo' : Nat → Int32} (hR : x_R G h0 st.heap) (h7 : R7 h0 q th sz sd ss pr me ab be pi le sg wo) (hap : ap7 q) (hP : va_P G.1 vwCl (w7 (G.2 0) q th' sz' sd' ss' pr' me' ab' be' pi' le' sg' wo') t.heap) (hF : va_F (A7 q) st t) :
    ∃ h1 : xH, (∀ b, ¬ A7 q b → h1 b = h0 b) ∧ R7 h1 q th' sz' sd' ss' pr' me' ab' be' pi' le' sg' wo' ∧ x_B G h0 st.heap.size h1 t ∧ va_F (x_A h0 st.heap.size) st t := by
  have r1 := up7_R (h := h0) (th := th') (sz := sz') (sd := sd') (ss := ss') (pr := pr') (me := me') (ab := ab') (be := be') (pi := pi') (le := le') (sg := sg') (wo := wo') hap
  refine ⟨up7 h0 q th' sz' sd' ss' pr' me' ab' be' pi' le' sg' wo', fun b hb => up7_n hb, r1, ⟨fun b e he => ?_, fun b e he => ?_⟩, hF.1, fun b b1 b2 => hF.2 b b1 (fun w => b2 (a7_free h7 w))⟩
  · by_cases hb : A7 q b
    · obtain ⟨k, hk, rfl⟩ := hb
      obtain ⟨e0, e1, e2, e3, e4, e5, e6⟩ := r1
      match k, hk with
      | 0, _ => rw [e0] at he; cases he; exact hP 0 _ rfl
      | 1, _ => rw [e1] at he; cases he; exact hP 1 _ rfl
      | 2, _ => rw [e2] at he; cases he; exact hP 2 _ rfl
      | 3, _ => rw [e3] at he; cases he; exact hP 3 _ rfl
      | 4, _ => rw [e4] at he; cases he; exact hP 4 _ rfl
      | 5, _ => rw [e5] at he; cases he; exact hP 5 _ rfl
      | 6, _ => rw [e6] at he; cases he; exact hP 6 _ rfl
    · rw [up7_n hb] at he
      exact (hR b e he).kept (hF.2 b (hR b e he).lt hb)
  · by_cases hb : A7 q b
    · exact a7_free h7 hb
    · rw [up7_n hb] at he
      exact Or.inl ⟨e, he⟩
