/-! ===== the class's model: a new one (own work) ===== -/
section
theorem sm_put1 {κ : Nat → Option Nat} {h : xH} {mo n k i j : Nat} {an : Nat → Int} {ad : Nat → Nat} {va : Int} {vb : Nat} {K I J VA VB : Int32} {Q : xH → Prop} (M : Mo κ h mo n an ad) (hn1 : 1 ≤ n) (hn2 : n ≤ 2) (hk : k < 7) (hi : i < rk n k) (hj : j < ck n k) (eK : K = nI k) (eI : I = nI i) (eJ : J = nI j) (eA : VA = iI va) (eB : VB = nI vb)
    (kk : ∀ h', (∀ q, κ q = none → h' q = h q) → (∀ q, h' q = none ↔ h q = none) → Mo κ h' mo n (va_up an (4 * k + 2 * i + j) va) (va_up ad (4 * k + 2 * i + j) vb) → Q h') :
    ∃ fs_90 : List Value, h mo = some (.inr (1, fs_90)) ∧ ∃ v_90 : Nat, fs_90[1]? = some (.ref v_90) ∧ ∃ (n_94 : Nat) (f_94 : Nat → Option Nat), h v_90 = some (.inl (4, n_94, .inr (.inr (.inr (.inr f_94))))) ∧ vp_in K n_94 ∧ ∃ y_94 : Nat, (f_94 (K : Int32).toNatClampNeg) = some y_94 ∧ ∃ fs_99 : List Value, h y_94 = some (.inr (2, fs_99)) ∧ wp_X2_put h y_94 I J VA VB Q := by
  subst eK eI eJ eA eB
  obtain ⟨ps, fp, h1, h2, hps, h3⟩ := M
  obtain ⟨p, p1, P⟩ := h3 k hk
  have hP' := P
  obtain ⟨A, B, fa, fb, a1, a2, a3, a4, a5, -⟩ := hP'
  have r2 := (rk_le (k := k) hn1 hn2).2
  have c2 := (ck_le (k := k) hn1 hn2).2
  refine ⟨_, h1, _, rfl, _, _, h2, vp_in_nI (by omega) (by omega), p, by rw [nI_clamp (by omega)]; exact p1, _, a1, sp_X2_put P r2 c2 hi hj (fun h' b1 b2 b3 P' => ?_)⟩
  obtain ⟨m1, m2, m3⟩ := Mo.put hn1 hn2 hk hi hj h1 h2 h3 hps p1 b1 (fun q e he => b2 q _ he (fun y w => by cases w)) P'
  refine kk h' (fun q hq => b1 q (by rw [hq]; intro z; cases z) (by rw [hq]; intro z; cases z)) b3 ⟨ps, fp, m1, m2, hps, m3⟩
/-- the parts so far made of a new model -/
def MoP (κ : Nat → Option Nat) (h0 h : xH) (mo ps n K : Nat) : Prop :=
  Ext h0 h ∧ (∀ q, κ q ≠ none → h0 q = none) ∧ (∀ q, h q = none → κ q = none) ∧ h mo = some (.inr (1, [.int (nI n), .ref ps])) ∧ κ ps = none ∧ h0 mo = none ∧ h0 ps = none ∧ κ mo = none ∧ ∃ fp : Nat → Option Nat, h ps = some (.inl (4, 7, .inr (.inr (.inr (.inr fp))))) ∧ ∀ k, k < K → ∃ p, fp k = some p ∧ Pt κ h p k (rk n k) (ck n k) (fun _ => 0) (fun _ => 1)
theorem sm_init_58 {post : xH → Prop} {Rc : xH → Nat → Nat → Nat → Int32 → Int32 → Prop} {K82 : xH → Nat → Nat → Nat → Int32 → Prop} {κ : Nat → Option Nat} {h0 h : xH} {mo ps n k kc ks : Nat} (hM : MoP κ h0 h mo ps n k) (hn1 : 1 ≤ n) (hn2 : n ≤ 2) (hk : k < 7) (hkc : 3 ≤ kc) (hks : 12 ≤ ks)
    (kk : ∀ κ' h' , MoP κ' h0 h' mo ps n (k + 1) → Rc h' (kc - 1 - 2) (ks - 4 - 8) mo (nI n) (nI (k + 1))) : wj_X1_init_58 post Rc K82 h kc ks mo (nI n) (nI k) (nI (rk n k)) (nI (ck n k)) := by
  obtain ⟨m1, m2, m3, m4, m5, m6, m7, m8, fp, m9, m10⟩ := hM
  have r2 := (rk_le (k := k) hn1 hn2).2
  have c2 := (ck_le (k := k) hn1 hn2).2
  have hrc := ixb r2 c2
  refine ⟨_, m4, _, rfl, by omega, by omega, fun q hq h1 e1 => ⟨2, 8, by omega, by omega, ?_⟩⟩
  have nq := fresh_none hq
  have x1 : Ext h h1 := by rw [e1]; exact Ext.new hq
  refine sp_X2_init (by rw [e1]; exact x_up_s) hrc (Nat.le_refl _) (Nat.le_refl _) (fun h2 A B g nA nB hAB c2' o2 a2 b2 hg => ?_)
  have nA' := x1.none nA
  have nB' := x1.none nB
  have hqA : q ≠ A := fun w => by rw [← w, e1, x_up_s] at nA; cases nA
  have hqB : q ≠ B := fun w => by rw [← w, e1, x_up_s] at nB; cases nB
  have psq : ps ≠ q := fun w => by rw [w, nq] at m9; cases m9
  have psA : ps ≠ A := fun w => by rw [w, nA'] at m9; cases m9
  have psB : ps ≠ B := fun w => by rw [w, nB'] at m9; cases m9
  have moq : mo ≠ q := fun w => by rw [w, nq] at m4; cases m4
  have moA : mo ≠ A := fun w => by rw [w, nA'] at m4; cases m4
  have moB : mo ≠ B := fun w => by rw [w, nB'] at m4; cases m4
  have mops : mo ≠ ps := fun w => by rw [w, m9] at m4; cases m4
  have h2h : ∀ x, x ≠ q → x ≠ A → x ≠ B → h2 x = h x := fun x x1 x2 x3 => by rw [c2' x x1 x2 x3, e1, x_up_n x1]
  refine ⟨_, _, (h2h ps psq psA psB).trans m9, vp_in_nI (by omega) (by omega), _, o2, fun h3 e3 x2 ex2 => ?_⟩
  rw [nI_1] at ex2
  rw [ex2]
  rw [nI_clamp (by omega)] at e3
  have h3h : ∀ x, x ≠ q → x ≠ A → x ≠ B → x ≠ ps → h3 x = h x := fun x x1 x2 x3 x4 => by rw [e3, x_up_n x4]; exact h2h x x1 x2 x3
  have h3q : h3 q = some (.inr (2, [.int (nI (rk n k)), .int (nI (ck n k)), .ref A, .ref B])) := by rw [e3, x_up_n (Ne.symm psq)]; exact o2
  have h3A : h3 A = some (.inl (0, rk n k * ck n k, .inl (fun _ => 0))) := by rw [e3, x_up_n (Ne.symm psA)]; exact a2
  have h3B : h3 B = some (.inl (0, rk n k * ck n k, .inl g)) := by rw [e3, x_up_n (Ne.symm psB)]; exact b2
  obtain ⟨κ', hκ'⟩ : ∃ κ' : Nat → Option Nat, κ' = fun x => if x = A then some (2 * k) else if x = B then some (2 * k + 1) else κ x := ⟨_, rfl⟩
  have kA : κ' A = some (2 * k) := by rw [hκ']; simp
  have kB : κ' B = some (2 * k + 1) := by rw [hκ']; simp [Ne.symm hAB]
  have kO : ∀ x, x ≠ A → x ≠ B → κ' x = κ x := fun x x1 x2 => by rw [hκ']; simp [x1, x2]
  refine kk κ' h3 ⟨?_, fun x hx => ?_, fun x hx => ?_, ?_, ?_, m6, m7, ?_, va_up fp k (some q), by rw [e3]; exact x_up_s, fun j hj => ?_⟩
  · exact m1.only (p := fun x => x = q ∨ x = A ∨ x = B ∨ x = ps) (fun x hx => by rcases hx with w | w | w | w <;> subst w; exact m1.none nq; exact m1.none nA'; exact m1.none nB'; exact m7) (fun x hx => h3h x (fun w => hx (Or.inl w)) (fun w => hx (Or.inr (Or.inl w))) (fun w => hx (Or.inr (Or.inr (Or.inl w)))) (fun w => hx (Or.inr (Or.inr (Or.inr w)))))
  · by_cases hA : x = A
    · rw [hA]; exact m1.none nA'
    · by_cases hB : x = B
      · rw [hB]; exact m1.none nB'
      · rw [kO x hA hB] at hx
        exact m2 x hx
  · have xA : x ≠ A := fun w => by rw [w, h3A] at hx; cases hx
    have xB : x ≠ B := fun w => by rw [w, h3B] at hx; cases hx
    have xq : x ≠ q := fun w => by rw [w, h3q] at hx; cases hx
    have xp : x ≠ ps := fun w => by rw [w, e3, x_up_s] at hx; cases hx
    rw [kO x xA xB]
    rw [h3h x xq xA xB xp] at hx
    exact m3 x hx
  · rw [h3h mo moq moA moB mops]; exact m4
  · rw [kO ps psA psB]; exact m5
  · rw [kO mo moA moB]; exact m8
  · by_cases hjk : j = k
    · subst hjk
      refine ⟨q, va_up_self _ _ _, A, B, fun _ => 0, g, h3q, h3A, h3B, kA, kB, fun x hx => ⟨rfl, ?_⟩⟩
      rw [hg x hx]
      rfl
    · obtain ⟨p, p1, p2⟩ := m10 j (by omega)
      refine ⟨p, by rw [va_up_ne _ _ hjk]; exact p1, p2.tags (fun e he => ?_) (fun x e hx he => ⟨?_, ?_⟩) (fun _ _ => ⟨rfl, rfl⟩)⟩
      · rw [h3h p (fun w => by rw [w, nq] at he; cases he) (fun w => by rw [w, nA'] at he; cases he) (fun w => by rw [w, nB'] at he; cases he) (fun w => by rw [w, m9] at he; cases he)]
        exact he
      · have xps : x ≠ ps := fun w => by rw [w, m5] at hx; rcases hx with z | z <;> cases z
        rw [h3h x (fun w => by rw [w, nq] at he; cases he) (fun w => by rw [w, nA'] at he; cases he) (fun w => by rw [w, nB'] at he; cases he) xps]
        exact he
      · exact kO x (fun w => by rw [w, nA'] at he; cases he) (fun w => by rw [w, nB'] at he; cases he)
theorem sm_init_20 {post : xH → Prop} {K : xH → Nat → Nat → Nat → Int32 → Prop} {h0 : xH} {mo ps n kc0 ks0 : Nat} (hn1 : 1 ≤ n) (hn2 : n ≤ 2)
    (kk : ∀ κ h kc ks, kc0 ≤ kc → ks0 ≤ ks → MoP κ h0 h mo ps n 7 → K h kc ks mo (nI n)) :
    ∀ (m k : Nat) (κ : Nat → Option Nat) (h : xH) (kc ks : Nat), k + m = 7 → kc0 + 3 * m ≤ kc → ks0 + 12 * m ≤ ks → MoP κ h0 h mo ps n k → wl_X1_init_20 post K (m + 1) h kc ks mo (nI n) (nI k) := by
  have n7 : (7 : Int32) = nI 7 := rfl
  have n6 : (6 : Int32) = nI 6 := rfl
  have n1 : (1 : Int32) = nI 1 := rfl
  have n2 : (2 : Int32) = nI 2 := rfl
  have n4 : (4 : Int32) = nI 4 := rfl
  intro m
  induction m with
  | zero =>
    intro k κ h kc ks hkm hkc hks hM
    rw [wl_X1_init_20]
    obtain rfl : k = 7 := by omega
    exact ⟨fun _ => kk κ h kc ks (by omega) (by omega) hM, fun hc => absurd (by decide) hc⟩
  | succ m ih =>
    intro k κ h kc ks hkm hkc hks hM
    rw [wl_X1_init_20]
    have key : wj_X1_init_58 post (wl_X1_init_20 post K (m + 1)) K h kc ks mo (nI n) (nI k) (nI (rk n k)) (nI (ck n k)) := sm_init_58 hM hn1 hn2 (by omega) (by omega) (by omega) (fun κ' h' hM' => ih (k + 1) κ' h' _ _ (by omega) (by omega) (by omega) hM')
    have key37 : wj_X1_init_37 post (wl_X1_init_20 post K (m + 1)) K h kc ks mo (nI n) (nI k) (nI (rk n k)) := by
      unfold wj_X1_init_37 wj_X1_init_53
      rw [n1, n2, n4, nI_eq (by omega) (by decide), nI_eq (by omega) (by decide), nI_eq (by omega) (by decide)]
      unfold ck at key
      refine ⟨fun w => ?_, fun w1 => ⟨fun w => ?_, fun w2 => ⟨fun w => ?_, fun w => ?_⟩⟩⟩
      · rw [if_pos (Or.inl w)] at key; exact key
      · rw [if_pos (Or.inr (Or.inl w))] at key; exact key
      · rw [if_neg (by omega)] at key; exact key
      · rw [if_pos (Or.inr (Or.inr w))] at key; exact key
    rw [n7, nI_leI (by decide) (by omega), n6, nI_eq (by omega) (by decide)]
    unfold rk at key37
    refine ⟨fun hc => by omega, fun _ => ⟨fun w => ?_, fun w => ?_⟩⟩
    · rw [if_neg w] at key37; exact key37
    · rw [if_pos w] at key37; exact key37
/-- the numbers of a new model -/
def an0 (n x : Nat) : Int := if x = 4 ∨ x = 8 ∨ x = 20 ∨ x = 24 ∨ (n = 2 ∧ (x = 7 ∨ x = 11 ∨ x = 22)) then 1 else 0
theorem Mo.to {κ : Nat → Option Nat} {h : xH} {mo n : Nat} {an an' : Nat → Int} {ad ad' : Nat → Nat} (M : Mo κ h mo n an ad) (e1 : ∀ x, an' x = an x) (e2 : ∀ x, ad' x = ad x) : Mo κ h mo n an' ad' := by
  obtain rfl : an' = an := funext e1
  obtain rfl : ad' = ad := funext e2
  exact M
theorem sm_init_84 {post : xH → Prop} {K : xH → Nat → Nat → Nat → Prop} {κ : Nat → Option Nat} {h0 : xH} {mo n i kc ks m : Nat} {an : Nat → Int} {ad : Nat → Nat} {h : xH} (hn1 : 1 ≤ n) (hn2 : n ≤ 2) (hi : i < n) (he : Ext h0 h) (hκ : ∀ q, κ q ≠ none → h0 q = none) (M : Mo κ h mo n an ad)
    (kk : ∀ h', Ext h0 h' → (∀ q, h' q = none ↔ h q = none) → Mo κ h' mo n (va_up (va_up (va_up an (4 * 1 + 2 * i + i) 1) (4 * 2 + 2 * i + i) 1) (4 * 5 + 2 * i + 0) 1) (va_up (va_up (va_up ad (4 * 1 + 2 * i + i) 1) (4 * 2 + 2 * i + i) 1) (4 * 5 + 2 * i + 0) 1) → wl_X1_init_84 post K m h' kc ks mo (nI n) (nI (i + 1))) : wl_X1_init_84 post K (m + 1) h kc ks mo (nI n) (nI i) := by
  rw [wl_X1_init_84]
  have r1 : rk n 1 = n := rfl
  have r2 : rk n 2 = n := rfl
  have r5 : rk n 5 = n := rfl
  have c1 : ck n 1 = n := rfl
  have c2 : ck n 2 = n := rfl
  have c5 : ck n 5 = 1 := rfl
  have keep : ∀ {a b : xH}, Ext h0 a → (∀ q, κ q = none → b q = a q) → Ext h0 b := fun ha hb => ha.only (p := fun q => κ q ≠ none) hκ (fun q hq => hb q (by by_cases w : κ q = none; exact w; exact absurd w hq))
  refine ⟨fun hc => absurd hc (nI_ge (by omega) (by omega)), fun _ => sm_put1 (k := 1) (i := i) (j := i) (va := 1) (vb := 1) M hn1 hn2 (by decide) (by omega) (by omega) rfl rfl rfl rfl rfl (fun h1 k1 o1 M1 => sm_put1 (k := 2) (i := i) (j := i) (va := 1) (vb := 1) M1 hn1 hn2 (by decide) (by omega) (by omega) rfl rfl rfl rfl rfl (fun h2 k2 o2 M2 => sm_put1 (k := 5) (i := i) (j := 0) (va := 1) (vb := 1) M2 hn1 hn2 (by decide) (by omega) (by omega) rfl rfl rfl rfl rfl (fun h3 k3 o3 M3 x2 ex2 => ?_)))⟩
  rw [nI_1] at ex2
  rw [ex2]
  exact kk h3 (keep (keep (keep he k1) k2) k3) (fun q => (o3 q).trans ((o2 q).trans (o1 q))) M3
theorem sm_init {h0 h : xH} {mo n mc ms : Nat} {post : xH → Prop} (hn1 : 1 ≤ n) (hn2 : n ≤ 2) (he : Ext h0 h) (hna : h0 mo = none) (hmo : h mo = some (.inr (1, [.int 0, .null]))) (hmc : 22 ≤ mc) (hms : 91 ≤ ms)
    (kk : ∀ κ h', Ext h0 h' → (∀ q, κ q ≠ none → h0 q = none) → (∀ q, h' q = none → κ q = none) → Mo κ h' mo n (an0 n) (fun _ => 1) → post h') : wp_X1_init h mc ms mo (nI n) post := by
  refine ⟨_, hmo, Nat.le_of_ble_eq_true rfl, fun h1 e1 => ⟨by decide, fun u eu => ?_⟩⟩
  have : u = 7 := by rw [← eu]; rfl
  subst this
  refine ⟨by decide, by omega, by omega, fun ps hps h2 e2 => ?_⟩
  have nps := fresh_none hps
  have h1m : h1 mo = some (.inr (1, [.int (nI n), .null])) := by rw [e1, x_up_s]; rfl
  have mops : mo ≠ ps := fun w => by rw [← w, h1m] at nps; cases nps
  have nps' : h ps = none := by rw [e1, x_up_n (Ne.symm mops)] at nps; exact nps
  have h2m : h2 mo = some (.inr (1, [.int (nI n), .null])) := by rw [e2, x_up_n mops]; exact h1m
  refine ⟨_, h2m, Nat.le_of_ble_eq_true rfl, fun h3 e3 => ?_⟩
  have h3c : ∀ q, q ≠ mo → q ≠ ps → h3 q = h q := fun q q1 q2 => by rw [e3, x_up_n q1, e2, x_up_n q2, e1, x_up_n q1]
  have M0 : MoP (fun _ => none) h0 h3 mo ps n 0 := ⟨he.only (p := fun q => q = mo ∨ q = ps) (fun q hq => by rcases hq with w | w <;> subst w; exact hna; exact he.none nps') (fun q hq => h3c q (fun w => hq (Or.inl w)) (fun w => hq (Or.inr w))), fun q hq => absurd rfl hq, fun _ _ => rfl, by rw [e3, x_up_s]; rfl, rfl, hna, he.none nps', rfl, fun _ => none, by rw [e3, x_up_n (Ne.symm mops), e2, x_up_s], fun k hk => by omega⟩
  refine ⟨7 + 1, sm_init_20 (kc0 := 0) (ks0 := 0) hn1 hn2 (fun κ h4 kc ks _ _ hM => ?_) 7 0 _ h3 _ _ (by omega) (by omega) (by omega) M0⟩
  obtain ⟨m1, m2, m3, m4, m5, m6, m7, m8, fp, m9, m10⟩ := hM
  have M : Mo κ h4 mo n (fun _ => 0) (fun _ => 1) := ⟨ps, fp, m4, m9, m5, m10⟩
  have keep : ∀ {a b : xH}, Ext h0 a → (∀ q, κ q = none → b q = a q) → Ext h0 b := fun ha hb => ha.only (p := fun q => κ q ≠ none) m2 (fun q hq => hb q (by by_cases w : κ q = none; exact w; exact absurd w hq))
  have last : ∀ {h' : xH} {an : Nat → Int} {ad : Nat → Nat} {kc ks m : Nat}, Ext h0 h' → (∀ q, h' q = none ↔ h4 q = none) → Mo κ h' mo n an ad → (∀ x, an0 n x = va_up an 24 1 x) → (∀ x, 1 = va_up ad 24 1 x) → wl_X1_init_84 post (fun (h : xH) (kc : Nat) (ks : Nat) (x0 : Nat) => ∃ fs_135 : List Value, h x0 = some (.inr (1, fs_135)) ∧ ∃ v_135 : Nat, fs_135[1]? = some (.ref v_135) ∧ ∃ (n_140 : Nat) (f_140 : Nat → Option Nat), h v_135 = some (.inl (4, n_140, .inr (.inr (.inr (.inr f_140))))) ∧ vp_in 6 n_140 ∧ ∃ y_140 : Nat, (f_140 (6 : Int32).toNatClampNeg) = some y_140 ∧ ∃ fs_145 : List Value, h y_140 = some (.inr (2, fs_145)) ∧ wp_X2_put h  y_140 0 0 1 1 (fun (h_145 : xH) => post h_145)) (m + 1) h' kc ks mo (nI n) (nI n) := by
    intro h' an ad kc ks m xe xo xM ea eb
    rw [wl_X1_init_84]
    refine ⟨fun _ => ?_, fun hc => absurd (nI_le (Nat.le_refl _) (by omega)) hc⟩
    exact sm_put1 (k := 6) (i := 0) (j := 0) (va := 1) (vb := 1) xM hn1 hn2 (by decide) (show 0 < rk n 6 from Nat.one_pos) (show 0 < ck n 6 from Nat.one_pos) rfl rfl rfl rfl rfl (fun h6 k6 o6 M6 => kk κ h6 (keep xe k6) m2 (fun q hq => m3 q ((xo q).mp ((o6 q).mp hq))) (M6.to ea eb))
  rcases (show n = 1 ∨ n = 2 by omega) with w | w
  · subst w
    refine ⟨2, sm_init_84 (i := 0) hn1 hn2 (by decide) m1 m2 M (fun h5 x5 o5 M5 => last (m := 0) x5 o5 M5 (fun x => ?_) (fun x => ?_))⟩
    · by_cases h4 : x = 4
      · subst h4; rfl
      · by_cases h8 : x = 8
        · subst h8; rfl
        · by_cases h20 : x = 20
          · subst h20; rfl
          · by_cases h24 : x = 24
            · subst h24; rfl
            · simp [an0, va_up, h4, h8, h20, h24]
    · simp only [va_up]
      repeat' split
      all_goals rfl
  · subst w
    refine ⟨3, sm_init_84 (i := 0) hn1 hn2 (by decide) m1 m2 M (fun h5 x5 o5 M5 => sm_init_84 (i := 1) hn1 hn2 (by decide) x5 m2 M5 (fun h6 x6 o6 M6 => last (m := 0) x6 (fun q => (o6 q).trans (o5 q)) M6 (fun x => ?_) (fun x => ?_)))⟩
    · by_cases h4 : x = 4
      · subst h4; rfl
      · by_cases h8 : x = 8
        · subst h8; rfl
        · by_cases h20 : x = 20
          · subst h20; rfl
          · by_cases h24 : x = 24
            · subst h24; rfl
            · by_cases h7 : x = 7
              · subst h7; rfl
              · by_cases h11 : x = 11
                · subst h11; rfl
                · by_cases h22 : x = 22
                  · subst h22; rfl
                  · simp [an0, va_up, h4, h8, h20, h24, h7, h11, h22]
    · simp only [va_up]
      repeat' split
      all_goals rfl
end
