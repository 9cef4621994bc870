/-! ===== the reference's public methods over the state: begin, set, start, predict (own work) ===== -/
def RQ (s : AS) (Q : Nat → Option Rat) : Prop := s.sd = 1 → (∀ i, i < s.n → Q i = some (s.X i)) ∧ (∀ i j, i < s.n → j < s.n → Q (2 + 2 * i + j) = some (s.P (i * s.n + j))) ∧ (0 < s.m → Q 6 = some (s.Z 0) ∧ Q 7 = some (s.S 0) ∧ ∀ i, i < s.n → Q (8 + i) = some (s.K i))
def lkq (Q : Nat → Option Rat) : List (Nat × Option Rat) → Prop
  | [] => True
  | z :: t => Q z.1 = z.2 ∧ lkq Q t
theorem FS.lk {pi le sg : Nat → Int32} {Q : Nat → Option Rat} {l : List (Nat × Option Rat)} (h : FS pi le sg Q) (hs : lkq Q l) : FS pi le sg (lk l) := by
  obtain ⟨v, r, hQ⟩ := h
  refine ⟨v, r, fun f q hf hq => hQ f q hf ?_⟩
  clear hQ r
  induction l with
  | nil => simp [Jvm.Pilot.CExactFilterLaw_law_r2786_f41e28.lk] at hq
  | cons z t ih =>
    simp only [Jvm.Pilot.CExactFilterLaw_law_r2786_f41e28.lk] at hq
    by_cases hz : f = z.1
    · rw [if_pos hz] at hq
      rw [hz, hs.1, hq]
    · rw [if_neg hz] at hq
      exact ih hs.2 hq
theorem e_begin {th sz sd pr me x1 : Int32} {ab be : Nat → Int32} {post : Int32 → Int32 → Int32 → Int32 → Int32 → (Nat → Int32) → (Nat → Int32) → Prop}
    (k1 : ∀ n, x1 = nI n → 1 ≤ n → n ≤ 2 → ∀ ab' be', MD ab' be' (an0 n) (fun _ => 1) → post 0 (nI n) 0 0 0 ab' be') (k0 : (¬ ∃ n, x1 = nI n ∧ 1 ≤ n ∧ n ≤ 2) → post 1 sz sd pr me ab be) : wp_X7_begin th sz sd pr me ab be x1 post := by
  obtain ⟨a, rfl, ha⟩ := i32_rng x1
  have no : ¬ (1 ≤ a ∧ a ≤ 2) → wj_X7_begin_11 post th sz sd pr me ab be (iI a) := by
    intro h
    refine ⟨fun _ => k0 ?_, fun z => absurd z (by decide)⟩
    rintro ⟨n, e, n1, n2⟩
    rw [nI_iI, iI_eq ha (by omega)] at e
    omega
  rw [wp_X7_begin, show (1 : Int32) = iI 1 from rfl, show (2 : Int32) = iI 2 from rfl, iI_lt ha (by decide), iI_le ha (by decide)]
  refine ⟨fun h => no (by omega), fun h1 => ⟨fun h2 => ⟨fun z => absurd rfl z, fun _ => ?_⟩, fun h => no (by omega)⟩⟩
  obtain ⟨n, rfl⟩ : ∃ n : Nat, a = (n : Int) := ⟨a.toNat, by omega⟩
  rw [← nI_iI]
  exact e_fresh (by omega) (by omega) (fun ab' be' M => k1 n (nI_iI n).symm (by omega) (by omega) ab' be' M)
theorem MD.up {ab be : Nat → Int32} {an : Nat → Int} {ad : Nat → Nat} {x b : Nat} {a : Int} (h : MD ab be an ad) (ha : a.natAbs ≤ 20) (hb1 : 1 ≤ b) (hb : b ≤ 20) : MD (upd ab x (iI a)) (upd be x (nI b)) (va_up an x a) (va_up ad x b) := by
  intro i hi
  by_cases hx : i = x
  · subst hx
    rw [upd_s, upd_s, va_up_self, va_up_self]
    exact ⟨rfl, rfl, ha, by omega, hb⟩
  · rw [upd_n hx, upd_n hx, va_up_ne _ _ hx, va_up_ne _ _ hx]
    exact h i hi
theorem e_set {th : Int32} {n : Nat} {ab be : Nat → Int32} {an : Nat → Int} {ad : Nat → Nat} {y1 y2 y3 y4 y5 : Int32} {post : Int32 → (Nat → Int32) → (Nat → Int32) → Prop} (hM : MD ab be an ad) (n1 : 1 ≤ n) (n2 : n ≤ 2)
    (k1 : ∀ k i j a b, y1 = nI k → y2 = nI i → y3 = nI j → k < 7 → i < rk n k → j < ck n k → isFr y4 y5 a b → ∀ ab' be', MD ab' be' (putM an k i j a) (putM ad k i j b) → post 0 ab' be')
    (k0 : ¬ (hasM n y1 y2 y3 ∧ ∃ a b, isFr y4 y5 a b) → post 1 ab be) : wp_X7_set th (nI n) ab be y1 y2 y3 y4 y5 post := by
  have no : ¬ (hasM n y1 y2 y3 ∧ ∃ a b, isFr y4 y5 a b) → wj_X7_set_21 (nI n) post th ab be y1 y2 y3 y4 y5 := fun z => ⟨fun w => absurd w (by decide), fun _ => k0 z⟩
  refine e_noModel n1 n2 (fun hm => ⟨fun z => absurd rfl z, fun _ => e_noFr (fun a b hab => ⟨fun _ => ?_, fun z => absurd rfl z⟩) (fun hf => ⟨fun z => absurd z (by decide), fun _ => no (fun z => hf z.2)⟩)⟩) (fun hm => ⟨fun _ => no (fun z => hm z.1), fun z => absurd z (by decide)⟩)
  obtain ⟨k, i, j, e1, e2, e3, hk, hi, hj⟩ := hm
  obtain ⟨f1, f2, f3, f4, f5⟩ := id hab
  have r2 := (rk_le (k := k) n1 n2).2
  have c2 := (ck_le (k := k) n1 n2).2
  have kk1 := k1 k i j a b e1 e2 e3 hk hi hj hab
  subst e1 e2 e3 f1 f2
  refine ⟨fun _ => ?_, fun z => absurd rfl z⟩
  simp only [wp_X7_at, at_nI]
  refine ⟨vp_in_nI (by omega) (by decide), vp_in_nI (by omega) (by decide), ?_⟩
  rw [nI_clamp (by omega), show (1 : Int32) = nI 1 from rfl, show (4 : Int32) = nI 4 from rfl, nI_eq (by omega) (by decide), nI_eq (by omega) (by decide)]
  have M1 := hM.up (x := 4 * k + 2 * i + j) f3 f4 f5
  have again : (k = 1 ∨ k = 4) → wj_X7_set_73 (nI n) post 0 (upd ab (4 * k + 2 * i + j) (iI a)) (upd be (4 * k + 2 * i + j) (nI b)) (nI k) (nI i) (nI j) (iI a) (nI b) := by
    intro hk14
    simp only [wj_X7_set_73, wp_X7_at, at_nI]
    refine ⟨vp_in_nI (by omega) (by decide), vp_in_nI (by omega) (by decide), kk1 _ _ ?_⟩
    rw [nI_clamp (by omega)]
    unfold putM
    rw [if_pos hk14, if_pos hk14]
    exact M1.up f3 f4 f5
  refine ⟨fun w => again (Or.inl w), fun w => ⟨fun w2 => kk1 _ _ ?_, fun w2 => again (Or.inr w2)⟩⟩
  unfold putM
  rw [if_neg (by omega), if_neg (by omega)]
  exact M1
theorem e_start {th pr me : Int32} {ab be pi le sg wo : Nat → Int32} {s : AS} {Q : Nat → Option Rat} {post : Int32 → Int32 → Int32 → Int32 → Int32 → (Nat → Int32) → (Nat → Int32) → (Nat → Int32) → (Nat → Int32) → Prop} (hM : MD ab be s.an s.ad) (hF : FS pi le sg Q) (ok : s.ok)
    (k1 : fitP s.n 1 s.an s.ad → s.ss < 24 → ∀ pi' le' sg' wo' Q', FS pi' le' sg' Q' → RQ (sStart s) Q' → post 0 1 (nI (s.ss + 1)) 0 0 pi' le' sg' wo')
    (k0 : ¬ (fitP s.n 1 s.an s.ad ∧ s.ss < 24) → post 1 (nI s.sd) (nI s.ss) pr me pi le sg wo) : wp_X7_start th (nI s.n) (nI s.sd) (nI s.ss) pr me ab be pi le sg wo post := by
  obtain ⟨n1, n2, o3, o4, o5, o6, o7, -⟩ := ok
  have no : ¬ (fitP s.n 1 s.an s.ad ∧ s.ss < 24) → wj_X7_start_18 (nI s.n) ab be post th (nI s.sd) (nI s.ss) pr me pi le sg wo := fun z => ⟨fun w => absurd w (by decide), fun _ => k0 z⟩
  rw [wp_X7_start, show (24 : Int32) = nI 24 from rfl, nI_eq (by omega) (by decide)]
  refine ⟨fun e => no (fun z => by omega), fun e => e_fit (k := 1) hM n1 n2 (by decide) (fun hf => ⟨fun _ => ⟨fun _ => ⟨3, ?_⟩, fun z => absurd rfl z⟩, fun z => absurd z (by decide)⟩) (fun hf => ⟨fun z => absurd rfl z, fun _ => no (fun z => hf z.1)⟩)⟩
  have k1 := k1 hf (by omega)
  rw [nI_1]
  rcases n12 n1 n2 with hn | hn
  · rw [hn, wl_X7_start_61]
    refine ⟨fun hc => absurd hc (by decide), fun _ => sp_md (f := 0) (p := 0) (i := 0) (j := 0) hM hF (by decide) (by decide) (fun pi le sg wo hF => ⟨2, ?_⟩)⟩
    rw [wl_X7_start_79]
    simp only [wp_X7_cov]
    refine ⟨fun hc => absurd hc (by decide), fun _ => sp_md (f := 2) (p := 1) (i := 0) (j := 0) hM hF (by decide) (by decide) (fun pi le sg wo hF x hx => ?_)⟩
    subst hx
    rw [wl_X7_start_79]
    refine ⟨fun _ x hx => ?_, fun hc => absurd (by decide) hc⟩
    subst hx
    rw [wl_X7_start_61]
    refine ⟨fun _ => k1 _ _ _ _ _ hF (fun _ => ⟨fun i hi => ?_, fun i j hi hj => ?_, fun z => absurd z (Nat.lt_irrefl 0)⟩), fun hc => absurd (by decide) hc⟩
    · have hi : i < s.n := hi
      obtain rfl : i = 0 := by omega
      rfl
    · have hi : i < s.n := hi
      have hj : j < s.n := hj
      obtain rfl : i = 0 := by omega
      obtain rfl : j = 0 := by omega
      show _ = some (pv s.an s.ad s.n 1 (0 * s.n + 0))
      rw [hn]
      rfl
  · rw [hn, wl_X7_start_61]
    refine ⟨fun hc => absurd hc (by decide), fun _ => sp_md (f := 0) (p := 0) (i := 0) (j := 0) hM hF (by decide) (by decide) (fun pi le sg wo hF => ⟨3, ?_⟩)⟩
    rw [wl_X7_start_79]
    simp only [wp_X7_cov]
    refine ⟨fun hc => absurd hc (by decide), fun _ => sp_md (f := 2) (p := 1) (i := 0) (j := 0) hM hF (by decide) (by decide) (fun pi le sg wo hF x hx => ?_)⟩
    subst hx
    rw [wl_X7_start_79]
    simp only [wp_X7_cov]
    refine ⟨fun hc => absurd hc (by decide), fun _ => sp_md (f := 3) (p := 1) (i := 0) (j := 1) hM hF (by decide) (by decide) (fun pi le sg wo hF x hx => ?_)⟩
    subst hx
    rw [wl_X7_start_79]
    refine ⟨fun _ x hx => ?_, fun hc => absurd (by decide) hc⟩
    subst hx
    rw [wl_X7_start_61]
    refine ⟨fun hc => absurd hc (by decide), fun _ => sp_md (f := 1) (p := 0) (i := 1) (j := 0) hM hF (by decide) (by decide) (fun pi le sg wo hF => ⟨3, ?_⟩)⟩
    rw [wl_X7_start_79]
    simp only [wp_X7_cov]
    refine ⟨fun hc => absurd hc (by decide), fun _ => sp_md (f := 4) (p := 1) (i := 1) (j := 0) hM hF (by decide) (by decide) (fun pi le sg wo hF x hx => ?_)⟩
    subst hx
    rw [wl_X7_start_79]
    simp only [wp_X7_cov]
    refine ⟨fun hc => absurd hc (by decide), fun _ => sp_md (f := 5) (p := 1) (i := 1) (j := 1) hM hF (by decide) (by decide) (fun pi le sg wo hF x hx => ?_)⟩
    subst hx
    rw [wl_X7_start_79]
    refine ⟨fun _ x hx => ?_, fun hc => absurd (by decide) hc⟩
    subst hx
    rw [wl_X7_start_61]
    refine ⟨fun _ => k1 _ _ _ _ _ hF (fun _ => ⟨fun i hi => ?_, fun i j hi hj => ?_, fun z => absurd z (Nat.lt_irrefl 0)⟩), fun hc => absurd (by decide) hc⟩
    · have hi : i < s.n := hi
      obtain rfl | rfl : i = 0 ∨ i = 1 := by omega
      · rfl
      · rfl
    · have hi : i < s.n := hi
      have hj : j < s.n := hj
      show _ = some (pv s.an s.ad s.n 1 (i * s.n + j))
      rw [hn]
      obtain rfl | rfl : i = 0 ∨ i = 1 := by omega
      · obtain rfl | rfl : j = 0 ∨ j = 1 := by omega
        · rfl
        · rfl
      · obtain rfl | rfl : j = 0 ∨ j = 1 := by omega
        · rfl
        · rfl
