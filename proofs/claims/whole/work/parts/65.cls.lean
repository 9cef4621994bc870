/-! ===== the class's methods over its state: new, begin, set, start (own work) ===== -/
def sBegin (s : AS) (n : Nat) : AS := mkAS (n) (an0 n) (fun _ => 1) (s.ss) (0) (0) (0) (s.X) (s.P) (s.Z) (s.S) (s.K)
def sSet (s : AS) (k i j : Nat) (a : Int) (b : Nat) : AS := mkAS (s.n) (putM s.an k i j a) (putM s.ad k i j b) (s.ss) (s.sd) (s.p) (s.m) (s.X) (s.P) (s.Z) (s.S) (s.K)
def sStart (s : AS) : AS := mkAS (s.n) (s.an) (s.ad) (s.ss + 1) (1) (0) (0) (pv s.an s.ad 1 0) (pv s.an s.ad s.n 1) (s.Z) (s.S) (s.K)
def sPred (s : AS) : AS := mkAS (s.n) (s.an) (s.ad) (s.ss) (s.sd) (s.p + 1) (s.m) (pmv (pv s.an s.ad s.n 2) s.X (pv s.an s.ad 1 3) s.n) (pcv (pv s.an s.ad s.n 2) s.P (pv s.an s.ad s.n 4) s.n) (s.Z) (s.S) (s.K)
abbrev AS.H (s : AS) : Nat → Rat := pv s.an s.ad 1 5
abbrev AS.R (s : AS) : Nat → Rat := pv s.an s.ad 1 6
def sMeas (s : AS) (y : Rat) : AS := mkAS (s.n) (s.an) (s.ad) (s.ss) (s.sd) (s.p) (s.m + 1) (mmv s.H s.X s.P s.R s.n y) (mcv s.H s.P s.R s.n) (zv s.H s.X s.n y) (fun _ => sv s.H s.P s.R s.n) (kv s.H s.P s.R s.n)
def isFr (x y : Int32) (a : Int) (b : Nat) : Prop := x = iI a ∧ y = nI b ∧ a.natAbs ≤ 20 ∧ 1 ≤ b ∧ b ≤ 20
theorem i32_rng (x : Int32) : ∃ z : Int, x = iI z ∧ -2147483648 ≤ z ∧ z < 2147483648 := by
  refine ⟨x.toInt, ?_, Int32.le_toInt x, Int32.toInt_lt x⟩
  rw [iI, Int32.ofInt_toInt]
theorem isFr_of {a b : Int} (ha : -2147483648 ≤ a ∧ a < 2147483648) (hb : -2147483648 ≤ b ∧ b < 2147483648) : (∃ a' b', isFr (iI a) (iI b) a' b') ↔ -20 ≤ a ∧ a ≤ 20 ∧ 1 ≤ b ∧ b ≤ 20 := by
  constructor
  · rintro ⟨a', b', h1, h2, h3, h4, h5⟩
    rw [iI_eq ha (by omega)] at h1
    rw [nI_iI, iI_eq hb (by omega)] at h2
    omega
  · rintro ⟨h1, h2, h3, h4⟩
    refine ⟨a, b.toNat, rfl, ?_, by omega, by omega, by omega⟩
    rw [nI_iI, Int.toNat_of_nonneg (by omega)]
theorem c_isFr {h : xH} {x y : Int32} {post : Int32 → Prop} (k1 : ∀ a b, isFr x y a b → post 1) (k0 : (¬ ∃ a b, isFr x y a b) → post 0) : wp_X6_isFraction h x y post := by
  obtain ⟨a, rfl, ha⟩ := i32_rng x
  obtain ⟨b, rfl, hb⟩ := i32_rng y
  rw [isFr_of ha hb] at k0
  rw [wp_X6_isFraction, wj_X6_isFraction_27, wj_X6_isFraction_28, wj_X6_isFraction_28, show (-20 : Int32) = iI (-20) from rfl, show (20 : Int32) = iI 20 from rfl, show (1 : Int32) = iI 1 from rfl, show (0 : Int32) = iI 0 from rfl, iI_lt ha (by decide), iI_lt (by decide) ha, iI_lt hb (by decide), iI_lt (by decide) hb]
  refine ⟨fun w => ⟨rfl, k0 (by omega)⟩, fun w1 => ⟨fun w => ⟨rfl, k0 (by omega)⟩, fun w2 => ⟨fun w => ⟨rfl, k0 (by omega)⟩, fun w3 => ⟨fun w => ⟨rfl, k0 (by omega)⟩, fun w4 => ⟨rfl, ?_⟩⟩⟩⟩⟩
  obtain ⟨a', b', h'⟩ := (isFr_of ha hb).mpr ⟨by omega, by omega, by omega, by omega⟩
  exact k1 a' b' h'
theorem Mv.rf (h : xH) : Mv h h := fun _ _ z _ => z
theorem Mo.retag {κ : Nat → Option Nat} {S : Nat → Prop} {h : xH} {mo n : Nat} {an : Nat → Int} {ad : Nat → Nat} (M : Mo κ h mo n an ad) (h1 : ∀ b e, S b → h b = some e → srt e) (h2 : ∀ b, S b → κ b = none) : ∃ κ' : Nat → Option Nat, (∀ b, S b → κ' b = some 100) ∧ (∀ b, ¬ S b → κ' b = κ b) ∧ Mo κ' h mo n an ad := by
  classical
  refine ⟨fun b => if S b then some 100 else κ b, fun b hb => if_pos hb, fun b hb => if_neg hb, ?_⟩
  obtain ⟨ps, fp, a1, a2, a3, a4⟩ := M
  refine ⟨ps, fp, a1, a2, ?_, fun k hk => ?_⟩
  · refine (if_neg (fun hS => ?_)).trans a3
    rcases h1 ps _ hS a2 with z | z <;> cases z
  · obtain ⟨p, p1, p2⟩ := a4 k hk
    refine ⟨p, p1, p2.tags (fun e hp => hp) (fun q e hq hp => ⟨hp, ?_⟩) (fun x hx => ⟨rfl, rfl⟩)⟩
    refine if_neg (fun hS => ?_)
    rw [h2 q hS] at hq
    rcases hq with z | z <;> cases z
theorem c_begin {κ : Nat → Option Nat} {V : vT} {S : Nat → Prop} {h : xH} {x1 n mc ms : Nat} {s : AS} {post : xH → Prop} {postx : String → xH → Prop} (C : CI κ V S h x1 s) (hn1 : 1 ≤ n) (hn2 : n ≤ 2) (hmc : 30 ≤ mc) (hms : 100 ≤ ms)
    (kk : ∀ κ' V' h', CI κ' V' S h' x1 (sBegin s n) → (∀ b, S b → h' b = h b) → post h') : wp_X6_begin h mc ms x1 (nI n) post postx := by
  have key : wj_X6_begin_18 post postx h mc ms x1 (nI n) := by
    have C' := C
    obtain ⟨c1, c2, c3, mo, t0, t1, t2, t3, t4, c4, -⟩ := C'
    refine ⟨by omega, by omega, fun q hf h19 e19 => ⟨22, 91, by omega, by omega, ?_⟩⟩
    have x19 : Ext h h19 := by rw [e19]; exact Ext.new hf
    refine sm_init hn1 hn2 x19 (fresh_none hf) (by rw [e19, x_up_s]) (Nat.le_refl _) (Nat.le_refl _) (fun κ' h24 x24 a2 a3 M => ?_)
    have r0 : RB κ (fun _ => none) h h24 x1 _ := ⟨x24.mv, fun b hb => x24.none hb, (fun _ _ _ hq => by cases hq), x24 _ _ c4⟩
    refine ⟨_, r0.2.2.2, (Nat.le_of_ble_eq_true rfl), fun h27 e27 => ⟨(Nat.le_of_ble_eq_true rfl), fun h32 e32 => ⟨(Nat.le_of_ble_eq_true rfl), fun h37 e37 => ⟨(Nat.le_of_ble_eq_true rfl), fun h42 e42 => ?_⟩⟩⟩⟩
    have r1 := r0.set e27
    have r2 := r1.set e32
    have r3 := r2.set e37
    have r4 := r3.set e42
    have m24 : Mv h24 h42 := (st_mv r0.2.2.2 e27).tr ((st_mv r1.2.2.2 e32).tr ((st_mv r2.2.2.2 e37).tr (st_mv r3.2.2.2 e42)))
    have hl : ∀ b, S b → h42 b = h b := C.left r4.1
    have hS : ∀ b e, S b → h42 b = some e → srt e := by
      intro b e hb he
      obtain ⟨-, e', k2, k3⟩ := c2 b hb
      rw [hl b hb, k2] at he
      cases he
      exact k3
    have hS2 : ∀ b, S b → κ' b = none := by
      intro b hb
      obtain ⟨-, e', k2, k3⟩ := c2 b hb
      rcases hk : κ' b with _ | t
      · rfl
      · rw [a2 b (by rw [hk]; intro z; cases z)] at k2
        cases k2
    obtain ⟨κ'', g1, g2, M''⟩ := (M.mv m24).retag hS hS2
    have n24 : ∀ b, h42 b = none → h24 b = none := by
      intro b hb
      by_cases hx : b = x1
      · rw [hx, r4.2.2.2] at hb
        cases hb
      · rw [e42, x_up_n hx, e37, x_up_n hx, e32, x_up_n hx, e27, x_up_n hx] at hb
        exact hb
    refine kk κ'' (fun _ => none) h42 ⟨fun b hb => ?_, fun b hb => ⟨g1 b hb, ?_⟩, fun _ _ _ hq => (by cases hq), q, t0, t1, t2, t3, t4, r4.2.2.2, ?_, fun z => absurd (show (0 : Nat) = 1 from z) (by decide), fun z => absurd (show (0 : Nat) = 1 from z) (by decide)⟩ hl
    · have hns : ¬ S b := by
        intro hb'
        obtain ⟨-, e', k2, -⟩ := c2 b hb'
        rw [hl b hb', k2] at hb
        cases hb
      rw [g2 b hns]
      exact a3 b (n24 b hb)
    · obtain ⟨-, e', k2, k3⟩ := c2 b hb
      exact ⟨e', by rw [hl b hb]; exact k2, k3⟩
    · exact M''
  refine ⟨fun _ => key, fun w => ⟨fun _ => key, fun w2 => ?_⟩⟩
  rcases n12 hn1 hn2 with rfl | rfl
  · exact absurd rfl w
  · exact absurd rfl w2
theorem c_set {κ : Nat → Option Nat} {V : vT} {S : Nat → Prop} {h : xH} {x1 mc ms : Nat} {y1 y2 y3 y4 y5 : Int32} {s : AS} {post : xH → Prop} {postx : String → xH → Prop} (C : CI κ V S h x1 s) (ok : s.ok) (hmc : 1 ≤ mc) (hms : 6 ≤ ms)
    (k1 : ∀ k i j a b, y1 = nI k → y2 = nI i → y3 = nI j → k < 7 → i < rk s.n k → j < ck s.n k → isFr y4 y5 a b → ∀ h', CI κ V S h' x1 (sSet s k i j a b) → (∀ b, S b → h' b = h b) → post h')
    (k0 : ¬ (hasM s.n y1 y2 y3 ∧ ∃ a b, isFr y4 y5 a b) → postx EIA h) : wp_X6_set h mc ms x1 y1 y2 y3 y4 y5 post postx := by
  obtain ⟨n1, n2, -⟩ := ok
  have C' := C
  obtain ⟨c1, c2, c3, mo, t0, t1, t2, t3, t4, c4, c5, c6, c7⟩ := C'
  have M' := c5
  obtain ⟨ps, fp, a1, -⟩ := M'
  refine ⟨_, c4, _, rfl, _, a1, sm_has c5 n1 n2 (fun hm => ⟨fun z => absurd z (by decide), fun _ => c_isFr (fun a b hf => ⟨fun _ => ?_, fun z => absurd z (by decide)⟩) (fun hf => ⟨fun z => absurd rfl z, fun _ => ⟨hmc, hms, k0 (fun z => hf z.2)⟩⟩)⟩) (fun hm => ⟨fun _ => ⟨hmc, hms, k0 (fun z => hm z.1)⟩, fun z => absurd rfl z⟩)⟩
  obtain ⟨k, i, j, e1, e2, e3, hk, hi, hj⟩ := hm
  have hf' := hf
  obtain ⟨f1, f2, f3, f4, f5⟩ := hf'
  rw [e1, e2, e3, f1, f2]
  refine sm_put c5 n1 n2 hk hi hj (fun h' b1 b2 b3 M => k1 k i j a b e1 e2 e3 hk hi hj hf h' ?_ ?_)
  · have kf : Kf κ h h' := by
      intro q e he
      by_cases z1 : κ q = some (2 * k)
      · by_cases z2 : ∃ y, e = .inl (0, y)
        · obtain ⟨y, rfl⟩ := z2
          exact Or.inr ⟨(by rw [z1]; intro w; cases w), Or.inl rfl⟩
        · exact Or.inl (b2 q e he (fun y w => z2 ⟨y, w⟩))
      · by_cases z3 : κ q = some (2 * k + 1)
        · by_cases z2 : ∃ y, e = .inl (0, y)
          · obtain ⟨y, rfl⟩ := z2
            exact Or.inr ⟨(by rw [z3]; intro w; cases w), Or.inl rfl⟩
          · exact Or.inl (b2 q e he (fun y w => z2 ⟨y, w⟩))
        · exact Or.inl (by rw [b1 q z1 z3]; exact he)
    have hS : ∀ b, S b → h' b = h b := fun b hb => b1 b (by rw [(c2 b hb).1]; intro w; injection w with w; omega) (by rw [(c2 b hb).1]; intro w; injection w with w; omega)
    refine ⟨fun b hb => c1 b ((b3 b).mp hb), fun b hb => ?_, c3.kf kf, mo, t0, t1, t2, t3, t4, b2 _ _ c4 (fun y w => by cases w), M, fun z => ⟨(c6 z).1.kf kf, (c6 z).2.kf kf⟩, fun z z' => ⟨(c7 z z').1.kf kf, (c7 z z').2.1.kf kf, (c7 z z').2.2.kf kf⟩⟩
    rw [hS b hb]
    exact c2 b hb
  · exact fun b hb => b1 b (by rw [(c2 b hb).1]; intro w; injection w with w; omega) (by rw [(c2 b hb).1]; intro w; injection w with w; omega)
theorem c_start {κ : Nat → Option Nat} {V : vT} {S : Nat → Prop} {h : xH} {x1 mc ms : Nat} {s : AS} {post : xH → Prop} {postx : String → xH → Prop} (C : CI κ V S h x1 s) (ok : s.ok) (hmc : 30 ≤ mc) (hms : 100 ≤ ms)
    (k1 : fitP s.n 1 s.an s.ad → s.ss < 24 → ∀ V' h', CI κ V' S h' x1 (sStart s) → (∀ b, S b → h' b = h b) → post h')
    (k0 : ¬ (fitP s.n 1 s.an s.ad ∧ s.ss < 24) → postx EIS h) : wp_X6_start h mc ms x1 post postx := by
  obtain ⟨n1, n2, o3, o4, o5, o6, o7, -⟩ := ok
  have C' := C
  obtain ⟨c1, c2, c3, mo, t0, t1, t2, t3, t4, c4, c5, c6, c7⟩ := C'
  have M' := c5
  obtain ⟨ps, fp, a1, -⟩ := M'
  have hth : wj_X6_start_20 post postx h mc ms ↔ postx EIS h := ⟨fun z => z.2.2, fun z => ⟨by omega, by omega, z⟩⟩
  refine ⟨_, c4, _, rfl, _, a1, sm_isFit (k := 1) c5 n1 n2 (Or.inl rfl) (fun x hx => ⟨(o7 x hx).1, (o7 x hx).2.2⟩) (fun hf => ⟨fun z => absurd z (by decide), fun _ => ⟨_, rfl, fun hlt => ?_, fun hlt => hth.mpr (k0 (fun z => hlt ?_))⟩⟩) (fun hf => ⟨fun _ => hth.mpr (k0 (fun z => hf z.1)), fun z => absurd rfl z⟩)⟩
  · rw [show (24 : Int32) = nI 24 from rfl, nI_ltI (by omega) (by decide)] at hlt
    have r0 : RB κ V h h x1 _ := ⟨Mv.rf h, fun b hb => hb, c3, c4⟩
    have hG0 : ∀ q, h q = none → Gk κ q := c1
    refine ⟨13, 48, by omega, by omega, tq_table (k := 0) (G := Gk κ) c5 n1 n2 (by decide) o7 hG0 (Nat.le_refl _) (Nat.le_refl _) (fun T h34 q x34 n34 T1 nq eq => ?_)⟩
    have r1 := r0.ext x34
    refine ⟨_, r1.2.2.2, (Nat.le_of_ble_eq_true rfl), fun h37 e37 => ?_⟩
    have r2 := r1.set e37
    have m37 := st_mv r1.2.2.2 e37
    obtain ⟨V1, v1, v2, v3⟩ := T1.keep eq r1.2.2.1 (c3.none nq)
    have r2 : RB κ V1 h h37 x1 _ := (r1.V v1).set e37
    have T1' := v2.mv m37
    have M37 := (c5.ext x34).mv m37
    have M37' := M37
    obtain ⟨ps', fp', a1', -⟩ := M37'
    refine ⟨_, rfl, _, a1', 13, 48, by omega, by omega, tq_table (k := 1) (G := Gk κ) M37 n1 n2 (by decide) o7 (fun q hq => c1 q (r2.2.1 q hq)) (Nat.le_refl _) (Nat.le_refl _) (fun T' h46 q' x46 n46 T2 nq' eq' => ?_)⟩
    have r3 := r2.ext x46
    obtain ⟨V2, w1, w2, w3⟩ := T2.keep eq' r3.2.2.1 (r2.2.2.1.none nq')
    have r3 := r3.V w1
    have T1'' := w3 (T1'.mv x46.mv)
    refine ⟨_, r3.2.2.2, (Nat.le_of_ble_eq_true rfl), fun h49 e49 => ⟨_, rfl, (Nat.le_of_ble_eq_true rfl), fun h59 e59 => ⟨(Nat.le_of_ble_eq_true rfl), fun h64 e64 => ⟨(Nat.le_of_ble_eq_true rfl), fun h69 e69 => ⟨(Nat.le_of_ble_eq_true rfl), fun h74 e74 => ?_⟩⟩⟩⟩⟩
    have r4 := r3.set e49
    have r5 := r4.set e59
    have r6 := r5.set e64
    have r7 := r6.set e69
    have r8 := r7.set e74
    have mm : Mv h46 h74 := (st_mv r3.2.2.2 e49).tr ((st_mv r4.2.2.2 e59).tr ((st_mv r5.2.2.2 e64).tr ((st_mv r6.2.2.2 e69).tr (st_mv r7.2.2.2 e74))))
    have hl := C.left r8.1
    have O := r8.2.2.2
    refine k1 hf hlt V2 h74 ⟨fun b hb => c1 b (r8.2.1 b hb), fun b hb => ⟨(c2 b hb).1, by rw [hl b hb]; exact (c2 b hb).2⟩, r8.2.2.1, mo, T, T', t2, t3, t4, ?_, (M37.ext x46).mv mm, fun _ => ⟨T1''.mv mm, w2.mv mm⟩, fun _ z => absurd (show (0 : Nat) < 0 from z) (Nat.lt_irrefl 0)⟩ hl
    rw [O]
    show some (Sum.inr (6, [Value.ref mo, .int (nI s.ss + 1), .int 1, .int 0, .int 0, .ref T, .ref T', .ref t2, .ref t3, .ref t4])) = _
    rw [nI_1]
    rfl
  · rw [show (24 : Int32) = nI 24 from rfl, nI_ltI (by omega) (by decide)]
    exact z.2
