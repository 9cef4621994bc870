theorem x_up_s {h : xH} {a : Nat} {e : xE} : x_up h a e a = some e := if_pos rfl
theorem x_up_n {h : xH} {a b : Nat} {e : xE} (hn : b ≠ a) : x_up h a e b = h b := if_neg hn
/-- a number against a switch's range -/
theorem x_sw (x : Int32) (lo n : Nat) : (x.toInt < lo ∨ (n : Int) < x.toInt) ∨ ∃ j : Nat, j < n + 1 - lo ∧ x = nI (lo + j) := by
  by_cases h : x.toInt < lo ∨ (n : Int) < x.toInt
  · exact Or.inl h
  · refine Or.inr ⟨(x.toInt - lo).toNat, by omega, ?_⟩
    apply Int32.toInt_inj.mp
    have h1 := Int32.toInt_lt x
    rw [nI_toInt (by omega)]
    omega
/-! ===== java.util.Arrays: copyOf, fill ===== -/
abbrev rJ7_copyOf (mc ms : Nat) : Room := { frames := 2, cells := mc, slots := ms, locals := 60 }
def wp_J7_copyOf (h0 : xH) (mc ms : Nat) (x0 : Nat) (x1 : Int32) (post : Nat → xH → Prop) : Prop := ∃ (n : Nat) (f : Nat → Int32), h0 x0 = some (.inl (0, n, .inl f)) ∧ ¬ x1 < 0 ∧ ∀ z : Nat, x1.toNatClampNeg = z → n ≤ 60000000 ∧ z ≤ n ∧ 1 ≤ mc ∧ z ≤ ms ∧ ∀ q : Nat, x_fresh h0 q → ∀ g : Nat → Int32, (∀ i, i < z → g i = f i) → post q (x_up h0 q (.inl (0, z, .inl g)))
set_option maxRecDepth 100000 in
set_option maxHeartbeats 4000000 in
theorem jw_in : ∀ w ∈ [Cond.sameMethod "[I" "java/lang/Object" "clone" "()Ljava/lang/Object;", .initialized "java/lang/System"], w ∈ lg := by decide +kernel
theorem x_I.copied {G : xG} {h0 h : xH} {s : State} {H H1 : Heap} {a : Nat} {e : xE} {locs1 : List Loc} {A : Nat → Prop} (hI : x_I G (x_A h0 s.heap.size) s.heap h H []) (hS : va_S A H H1 locs1) (hA : ∀ q, A q → (∃ e, h q = some e) ∨ H.size ≤ q) (hnew : ∀ b eb, x_up h a e b = some eb → A b → va_at G.1 vwCl (b, x_e G eb) H1) (ha : (∃ e, h a = some e) ∨ H.size ≤ a) (haA : A a) : x_I G (x_A h0 s.heap.size) s.heap (x_up h a e) H1 locs1 := by
  have dom : ∀ q, ((∃ e, h q = some e) ∨ H.size ≤ q) → x_A h0 s.heap.size q := by
    intro q hq
    rcases hq with ⟨eq, hq⟩ | hq
    · exact hI.2.1 q eq hq
    · exact hI.2.2.2 q (Nat.le_trans hI.2.2.1.1 hq)
  refine ⟨fun b eb hb => ?_, fun b eb hb => ?_, ⟨Nat.le_trans hI.2.2.1.1 hS.1, fun q q1 q2 => ?_, fun l hl => dom _ (hA _ (hS.2.2 l hl))⟩, hI.2.2.2⟩
  · by_cases hAb : A b
    · exact hnew b eb hb hAb
    · have hba : b ≠ a := fun w => hAb (w ▸ haA)
      rw [x_up_n hba] at hb
      exact (hI.1 b eb hb).kept (hS.2.1 b (hI.lt hb) hAb)
  · by_cases hba : b = a
    · rw [hba]; exact dom a ha
    · rw [x_up_n hba] at hb
      exact hI.2.1 b eb hb
  · rw [hS.2.1 q (Nat.lt_of_lt_of_le q1 hI.2.2.1.1) (fun w => q2 (dom q (hA q w)))]
    exact hI.2.2.1.2.1 q q1 q2
set_option maxHeartbeats 4000000 in
set_option maxRecDepth 100000 in
theorem m_J7_copyOf (l : Launch) (G : xG) (h0 : xH) (mc ms : Nat) (x0 : Nat) (x1 : Int32) (post : Nat → xH → Prop) (hw : wp_J7_copyOf h0 mc ms x0 x1 post) (sz : Nat) : Met l yJ7_copyOf_59c91 (wu yJ7_copyOf_59c91 cJ7_copyOf_59c91 3 (some (.array .int))) (rJ7_copyOf mc ms) (x_Pc G [.ref x0, .int x1] h0 sz) (x_Qr G h0 sz post) mc ms (x_A h0 sz) := by
  refine Met.ofW (cc := cJ7_copyOf_59c91) (maxL := 3) (ret := some (.array .int)) (by decide) rfl ?_
  intro p e s m args below meth c s₁ B hml hv
  obtain ⟨rfl, hsz, hR, hK⟩ := hv
  subst hsz
  have C : CX p s m _ meth c G RJ7 cJ7_copyOf_59c91 3 (some (.array .int)) := ⟨B.exec, B.bytes, B.returns, hml, findClass_of_methodNamed B.named, x_hg (atoms_spec (ws := wu yJ7_copyOf_59c91 cJ7_copyOf_59c91 3 (some (.array .int))) B.pre), B.notSynchronized, hK⟩
  obtain ⟨hx, hb, hr, hml, hown, hg, hlocks, hK⟩ := id C
  have hI : x_I G (x_A h0 s.heap.size) s.heap h0 s.heap [] := x_I.start hR
  have hl := lv_entry ([.ref x0, .int x1]) (n := 3) (Nat.le_of_ble_eq_true rfl)
  rw [lg_entry_eq]
  generalize (lg_sl ([.ref x0, .int x1]) ++ List.replicate (3 - (lg_sl ([.ref x0, .int x1])).length) Slot.unset).toArray = ls at hl ⊢
  have hl : lv_has ls 3 [(0, .ref x0), (1, .int x1)] := hl
  obtain ⟨n, f, hf, hx1, hw⟩ := hw
  obtain ⟨hn, hzn, hmc, hms, hw⟩ := hw _ rfl
  have hnm : s.vm.findClass "[I" = some (G.2 0) := (hK.1.2 0 _ rfl).2
  refine lv_iload_n hx hb dJ7_copyOf_59c91_0 rfl (lv_at hl 1 rfl) ?_
  refine lv_aload_n hx hb dJ7_copyOf_59c91_1 rfl (lv_at hl 0 rfl) ?_
  refine x_alen hx hb hK hI hf rfl dJ7_copyOf_59c91_2 ?_
  refine lv_icmp_ne (tgt := 14) hx hb dJ7_copyOf_59c91_3 (by decide) (fun hc => ?_) (fun hc => ?_)
  · obtain ⟨z, hz⟩ : ∃ z, z = x1.toNatClampNeg := ⟨_, rfl⟩
    rw [← hz] at hzn hms hw
    refine lv_iload_n hx hb dJ7_copyOf_59c91_14 rfl (lv_at hl 1 rfl) ?_
    refine x_newi hx hb (hg _ ka_int) hK hI hx1 hz.symm (by omega) (show 0 + 1 ≤ mc by omega) (show 0 + z ≤ ms by omega) dJ7_copyOf_59c91_15 (fun q H1 hfr hI1 => ?_)
    refine lv_astore_n (lv' := [(2, .ref q), (0, .ref x0), (1, .int x1)]) hx hb dJ7_copyOf_59c91_17 rfl hl (by decide) rfl (fun ls hl => ?_)
    refine lv_aload_n hx hb dJ7_copyOf_59c91_18 rfl (lv_at hl 1 rfl) ?_
    refine lv_iconst (v := 0) hx hb dJ7_copyOf_59c91_19 (by decide) ?_
    refine lv_aload_n hx hb dJ7_copyOf_59c91_20 rfl (lv_at hl 0 rfl) ?_
    refine lv_iconst (v := 0) hx hb dJ7_copyOf_59c91_21 (by decide) ?_
    refine lv_aload_n hx hb dJ7_copyOf_59c91_22 rfl (lv_at hl 1 rfl) ?_
    have nq : h0 q = none := by
      rcases he : h0 q with _ | e9
      · rfl
      · exact absurd (hfr q e9 he) (Nat.lt_irrefl q)
    have hxq : x0 ≠ q := fun w => by rw [w, nq] at hf; cases hf
    have hf1 : (x_up h0 q (.inl (0, z, .inl (fun _ => 0)))) x0 = some (.inl (0, n, .inl f)) := by rw [x_up_n hxq]; exact hf
    refine x_alen hx hb hK hI1 hf1 rfl dJ7_copyOf_59c91_23 ?_
    refine lv_iload_n hx hb dJ7_copyOf_59c91_24 rfl (lv_at hl 2 rfl) ?_
    refine va_mmin hx hb (by rw [hml]; exact hl.1.symm) hown (hg _ km_J7_304) (hg _ ks_J9_min_7cf53) (hg _ kn_J9) (hg _ kk_J9_min_7cf53) (Nat.le_of_ble_eq_true rfl) (Nat.le_of_ble_eq_true rfl) (show 0 + 1 ≤ mc by omega) (show 0 + z ≤ ms by omega) dJ7_copyOf_59c91_25 ?_
    have hmin : (if x1 < nI n then x1 else nI n) = x1 := by
      have h1 : x1 = nI z := by
        rw [hz]
        apply Int32.toInt_inj.mp
        have h2 := Int32.toInt_lt x1
        have h3 : ¬ x1.toInt < 0 := fun w => hx1 (Int32.lt_iff_toInt_lt.mpr w)
        have h4 : x1.toNatClampNeg = x1.toInt.toNat := rfl
        rw [nI_toInt (by omega)]
        omega
      by_cases w : x1 < nI n
      · rw [if_pos w]
      · rw [if_neg w, h1]
        rw [h1, nI_ltI (by omega) (by omega)] at w
        congr 1
        omega
    rw [hmin]
    have hA : ∀ b, (b = x0 ∨ b = q ∨ H1.size ≤ b) → (∃ e, (x_up h0 q (.inl (0, z, .inl (fun _ => 0)))) b = some e) ∨ H1.size ≤ b := by
      intro b hb'
      rcases hb' with w | w | w
      · exact Or.inl ⟨_, w ▸ hf1⟩
      · subst w
        exact Or.inl ⟨_, x_up_s⟩
      · exact Or.inr w
    have hP : va_P G.1 vwCl [(x0, .inl (G.2 0, n, .inl f)), (q, .inl (G.2 0, z, .inl (fun _ => 0)))] H1 := by
      intro k y hk
      match k, hk with
      | 0, hk => cases hk; exact hI1.1 x0 _ hf1
      | 1, hk => cases hk; exact hI1.1 q _ x_up_s
      | k + 2, hk => simp at hk
    have hD : va_D (fun b => b = x0 ∨ b = q ∨ H1.size ≤ b) [(x0, (.inl (G.2 0, n, .inl f) : va_E)), (q, .inl (G.2 0, z, .inl (fun _ => 0)))] := by
      refine ⟨fun i j x y hi hj hxy => ?_, fun k y hk => ?_⟩
      · match i, j, hi, hj with
        | 0, 0, _, _ => rfl
        | 1, 1, _, _ => rfl
        | 0, 1, hi, hj => cases hi; cases hj; exact absurd hxy hxq
        | 1, 0, hi, hj => cases hi; cases hj; exact absurd hxy.symm hxq
        | i + 2, _, hi, _ => simp at hi
        | 0, j + 2, _, hj => simp at hj
        | 1, j + 2, _, hj => simp at hj
      · match k, hk with
        | 0, hk => cases hk; exact Or.inl rfl
        | 1, hk => cases hk; exact Or.inr (Or.inl rfl)
        | k + 2, hk => simp at hk
    have hS1 : va_S (fun b => b = x0 ∨ b = q ∨ H1.size ≤ b) H1 H1 [] := ⟨Nat.le_refl _, fun _ _ _ => rfl, fun _ hl => nomatch hl⟩
    refine va_copyi hx hb (by rw [hml]; exact hl.1.symm) hown (hg _ km_J7_150) (hg _ kv_java_lang_System_arraycopy__Ljava_lang_Object_ILjava_lang_Object_II_V) (hg _ ks_java_lang_System_arraycopy__Ljava_lang_Object_ILjava_lang_Object_II_V) (hg _ (jw_in _ (by decide +kernel))) (hK.1.sub [0] rfl) hP hD hS1 0 1 0 0 rfl rfl rfl rfl rfl (by decide) (by decide) hx1 (by show 0 + x1.toNatClampNeg ≤ n; rw [← hz]; omega) (by show 0 + x1.toNatClampNeg ≤ z; rw [← hz]; omega) (fun i _ => rfl) (Nat.le_of_ble_eq_true rfl) (Nat.le_of_ble_eq_true rfl) dJ7_copyOf_59c91_28 (fun H2 locs2 hP2 hD2 hS2 => ?_)
    obtain ⟨g, hg'⟩ : ∃ g, g = va_cpy f (fun _ => 0) (0 : Int32).toNatClampNeg (0 : Int32).toNatClampNeg x1.toNatClampNeg := ⟨_, rfl⟩
    have hI2 : x_I G (x_A h0 s.heap.size) s.heap (x_up (x_up h0 q (.inl (0, z, .inl (fun _ => 0)))) q (.inl (0, z, .inl g))) H2 locs2 := by
      refine x_I.copied hI1 hS2 hA (fun b eb hb' hAb => ?_) (Or.inl ⟨_, x_up_s⟩) (Or.inr (Or.inl rfl))
      rcases hAb with w | w | w
      · subst w
        rw [x_up_n hxq, hf1] at hb'
        cases hb'
        exact hP2 0 _ rfl
      · subst w
        rw [x_up_s] at hb'
        cases hb'
        rw [hg']
        exact hP2 1 _ rfl
      · have : b ≠ q := fun w2 => by have := hI1.lt (a := q) x_up_s; omega
        rw [x_up_n this] at hb'
        have := hI1.lt hb'
        omega
    have e2 : x_up (x_up h0 q (.inl (0, z, .inl (fun _ => 0)))) q (.inl (0, z, .inl g)) = x_up h0 q (.inl (0, z, .inl g)) := by
      funext b
      by_cases w : b = q
      · rw [w, x_up_s, x_up_s]
      · rw [x_up_n w, x_up_n w, x_up_n w]
    rw [e2] at hI2
    refine lv_aload_n hx hb dJ7_copyOf_59c91_31 rfl (lv_at hl 0 rfl) ?_
    refine x_aret hx hb hr (Or.inr ⟨_, rfl⟩) hlocks hI2 (hw q hfr g (fun i hi => ?_)) (show 0 + 1 ≤ mc by omega) (show 0 + z ≤ ms by omega) dJ7_copyOf_59c91_32
    rw [hg', ← hz]
    simp [va_cpy, hi]
  · subst hc
    have e0 : (nI n).toNatClampNeg = n := nI_clamp (by omega)
    rw [e0] at hms hw
    refine lv_aload_n hx hb dJ7_copyOf_59c91_6 rfl (lv_at hl 0 rfl) ?_
    have hP : va_P G.1 vwCl [(x0, .inl (G.2 0, n, .inl f))] s.heap := x_P1 hI.1 hf
    have hD : va_D (fun b => b = x0 ∨ s.heap.size ≤ b) [(x0, (.inl (G.2 0, n, .inl f) : va_E))] := by
      refine ⟨fun i j x y hi hj hxy => ?_, fun k y hk => ?_⟩
      · match i, j, hi, hj with
        | 0, 0, _, _ => rfl
        | i + 1, _, hi, _ => simp at hi
        | 0, j + 1, _, hj => simp at hj
      · match k, hk with
        | 0, hk => cases hk; exact Or.inl rfl
        | k + 1, hk => simp at hk
    have hS1 : va_S (fun b => b = x0 ∨ s.heap.size ≤ b) s.heap s.heap [] := ⟨Nat.le_refl _, fun _ _ _ => rfl, fun _ hl => nomatch hl⟩
    refine va_clone hx hb (by rw [hml]; exact hl.1.symm) hown (hg _ km_J7_316) (hg _ (jw_in _ (by decide +kernel))) (hg _ kv_java_lang_Object_clone___Ljava_lang_Object_) (hg _ ki_java_lang_Object_clone___Ljava_lang_Object_) (hg _ kz__I__I_clone___Ljava_lang_Object_) hK.2.2.2.2 (hK.1.sub [0] rfl) hP hD hS1 (fun q hq => Or.inr hq) 0 0 rfl rfl hnm (fun i v hv => ?_) (Nat.le_of_ble_eq_true rfl) (Nat.le_of_ble_eq_true rfl) (show 0 + 1 ≤ mc by omega) (show 0 + n ≤ ms by omega) dJ7_copyOf_59c91_7 (fun q H1 _ hP1 hD1 hS2 => ?_)
    · have hv' : (arrV (G.2 0) n (fun j => .int (f j))).slots[i]? = some v := hv
      by_cases hi : i < n
      · rw [arrV_read _ _ hi] at hv'
        cases hv'
        rfl
      · rw [Array.getElem?_eq_none (by rw [arrV_size]; omega)] at hv'
        cases hv'
    · refine va_castA hx hb hown (hg _ kl_J7_317) hP1 1 rfl hnm dJ7_copyOf_59c91_10 ?_
      have hq9 : q = x0 ∨ s.heap.size ≤ q := hD1.2 1 _ rfl
      have hqx : q ≠ x0 := fun w => by
        have := hD1.1 1 0 _ _ rfl rfl w
        omega
      have hqs : s.heap.size ≤ q := hq9.resolve_left hqx
      have hfr : x_fresh h0 q := fun b eb hb' => Nat.lt_of_lt_of_le (hI.lt hb') hqs
      have hI2 : x_I G (x_A h0 s.heap.size) s.heap (x_up h0 q (.inl (0, n, .inl f))) H1 [] := by
        refine x_I.copied hI hS2 (fun b hb' => ?_) (fun b eb hb' hAb => ?_) (Or.inr hqs) (Or.inr hqs)
        · rcases hb' with w | w
          · exact Or.inl ⟨_, w ▸ hf⟩
          · exact Or.inr w
        · by_cases w : b = q
          · subst w
            rw [x_up_s] at hb'
            cases hb'
            exact hP1 1 _ rfl
          · rw [x_up_n w] at hb'
            rcases hAb with w2 | w2
            · subst w2
              rw [hf] at hb'
              cases hb'
              exact hP1 0 _ rfl
            · have := hI.lt hb'
              omega
      exact x_aret hx hb hr (Or.inr ⟨_, rfl⟩) hlocks hI2 (hw q hfr f (fun _ _ => rfl)) (show 0 + 1 ≤ mc by omega) (show 0 + n ≤ ms by omega) dJ7_copyOf_59c91_13
abbrev rJ7_fill : Room := { frames := 0, cells := 0, slots := 0, locals := 0 }
def wp_J7_fill (h0 : xH) (x0 : Nat) (x1 : Int32) (post : xH → Prop) : Prop := ∃ (n : Nat) (f : Nat → Int32), h0 x0 = some (.inl (0, n, .inl f)) ∧ n ≤ 60000000 ∧ ∀ g : Nat → Int32, (∀ i, i < n → g i = x1) → ∀ h1 : xH, (∀ b, b ≠ x0 → h1 b = h0 b) → h1 x0 = some (.inl (0, n, .inl g)) → post h1
theorem fill_loop {p : Program} {l : Launch} {e : Env} {s : State} {m : MethodId} {args : Array Value} {below : List Frame} {meth : Method} {c : Code} {G : xG} (C : CX p s m args meth c G RJ7 cJ7_fill_53178 4 none) (h0 : xH) (x0 : Nat) (x1 : Int32) (post : xH → Prop) (n : Nat) (hn : n ≤ 60000000)
    (hw : ∀ g : Nat → Int32, (∀ i, i < n → g i = x1) → ∀ h1 : xH, (∀ b, b ≠ x0 → h1 b = h0 b) → h1 x0 = some (.inl (0, n, .inl g)) → post h1) :
    ∀ (k i : Nat) (h : xH) (g : Nat → Int32) (H : Heap) (locs : List Loc) (ls : Array Slot), i + k = n → (∀ j, j < i → g j = x1) → (∀ b, b ≠ x0 → h b = h0 b) → h x0 = some (.inl (0, n, .inl g)) → x_I G (x_A h0 s.heap.size) s.heap h H locs → lv_has ls 4 [(2, .int (nI i)), (3, .int (nI n)), (0, .ref x0), (1, .int x1)] →
      W p l e rJ7_fill s m args below meth c H locs 0 0 (MQ below (x_Qv G h0 s.heap.size post) args s 0 0 (x_A h0 s.heap.size)) (F0 m 5 ls []) := by
  obtain ⟨hx, hb, hr, hml, hown, hg, hlocks, hK⟩ := id C
  intro k
  induction k with
  | zero =>
    intro i h g H locs ls hik hgi hh hf hI hl
    refine lv_iload_n hx hb dJ7_fill_53178_5 rfl (lv_at hl 0 rfl) ?_
    refine lv_iload_n hx hb dJ7_fill_53178_6 rfl (lv_at hl 1 rfl) ?_
    refine lv_icmp_ge (tgt := 20) hx hb dJ7_fill_53178_7 (by decide) (fun _ => ?_) (fun hc => ?_)
    · exact x_vret hx hb hr hlocks hI (hw g (fun j hj => hgi j (by omega)) h hh hf) (Nat.le_refl _) (Nat.le_refl _) dJ7_fill_53178_20
    · rw [nI_leI (by omega) (by omega)] at hc
      omega
  | succ k ih =>
    intro i h g H locs ls hik hgi hh hf hI hl
    refine lv_iload_n hx hb dJ7_fill_53178_5 rfl (lv_at hl 0 rfl) ?_
    refine lv_iload_n hx hb dJ7_fill_53178_6 rfl (lv_at hl 1 rfl) ?_
    refine lv_icmp_ge (tgt := 20) hx hb dJ7_fill_53178_7 (by decide) (fun hc => ?_) (fun _ => ?_)
    · rw [nI_leI (by omega) (by omega)] at hc
      omega
    · refine lv_aload_n hx hb dJ7_fill_53178_10 rfl (lv_at hl 2 rfl) ?_
      refine lv_iload_n hx hb dJ7_fill_53178_11 rfl (lv_at hl 0 rfl) ?_
      refine lv_iload_n hx hb dJ7_fill_53178_12 rfl (lv_at hl 3 rfl) ?_
      refine x_iast hx hb hK hI hf (vp_in_nI (by omega) (by omega)) dJ7_fill_53178_13 (fun H locs hI => ?_)
      refine lv_iinc (v := nI (i + 1)) (lv' := [(2, .int (nI (i + 1))), (3, .int (nI n)), (0, .ref x0), (1, .int x1)]) hx hb dJ7_fill_53178_14 hl (k := 0) rfl (by rw [← nI_1]; rfl) (by decide) rfl (fun ls hl => ?_)
      refine lv_goto (tgt := 5) hx hb dJ7_fill_53178_17 (by decide) ?_
      rw [nI_clamp (by omega)] at hI
      refine ih (i + 1) _ (upd g i x1) H locs ls (by omega) (fun j hj => ?_) (fun b hb' => by rw [x_up_n hb']; exact hh b hb') x_up_s hI hl
      by_cases hji : j = i
      · subst hji
        exact pk_us
      · rw [show upd g i x1 j = g j from pk_un hji]
        exact hgi j (by omega)
set_option maxHeartbeats 4000000 in
set_option maxRecDepth 100000 in
theorem m_J7_fill (l : Launch) (G : xG) (h0 : xH) (x0 : Nat) (x1 : Int32) (post : xH → Prop) (hw : wp_J7_fill h0 x0 x1 post) (sz : Nat) : Met l yJ7_fill_53178 (wu yJ7_fill_53178 cJ7_fill_53178 4 none) rJ7_fill (x_Pc G [.ref x0, .int x1] h0 sz) (x_Qv G h0 sz post) 0 0 (x_A h0 sz) := by
  refine Met.ofW (cc := cJ7_fill_53178) (maxL := 4) (ret := none) (by decide) rfl ?_
  intro p e s m args below meth c s₁ B hml hv
  obtain ⟨rfl, hsz, hR, hK⟩ := hv
  subst hsz
  have C : CX p s m _ meth c G RJ7 cJ7_fill_53178 4 none := ⟨B.exec, B.bytes, B.returns, hml, findClass_of_methodNamed B.named, x_hg (atoms_spec (ws := wu yJ7_fill_53178 cJ7_fill_53178 4 none) B.pre), B.notSynchronized, hK⟩
  obtain ⟨hx, hb, hr, hml, hown, hg, hlocks, hK⟩ := id C
  have hI : x_I G (x_A h0 s.heap.size) s.heap h0 s.heap [] := x_I.start hR
  have hl := lv_entry ([.ref x0, .int x1]) (n := 4) (Nat.le_of_ble_eq_true rfl)
  rw [lg_entry_eq]
  generalize (lg_sl ([.ref x0, .int x1]) ++ List.replicate (4 - (lg_sl ([.ref x0, .int x1])).length) Slot.unset).toArray = ls at hl ⊢
  have hl : lv_has ls 4 [(0, .ref x0), (1, .int x1)] := hl
  obtain ⟨n, f, hf, hn, hw⟩ := hw
  refine lv_iconst (v := 0) hx hb dJ7_fill_53178_0 (by decide) ?_
  refine lv_istore_n (lv' := [(2, .int (nI 0)), (0, .ref x0), (1, .int x1)]) hx hb dJ7_fill_53178_1 rfl hl (by decide) rfl (fun ls hl => ?_)
  refine lv_aload_n hx hb dJ7_fill_53178_2 rfl (lv_at hl 1 rfl) ?_
  refine x_alen hx hb hK hI hf rfl dJ7_fill_53178_3 ?_
  refine lv_istore_n (lv' := [(3, .int (nI n)), (2, .int (nI 0)), (0, .ref x0), (1, .int x1)]) hx hb dJ7_fill_53178_4 rfl hl (by decide) rfl (fun ls hl => ?_)
  exact fill_loop C h0 x0 x1 post n hn hw n 0 h0 f _ _ ls (by omega) (fun j hj => by omega) (fun _ _ => rfl) hf hI (lv_sub hl [1, 0, 2, 3] rfl)
