/-! ===== the class's whole numbers: of a long, as a long (own work) ===== -/
section
variable {G : Nat → Prop}
theorem lushr {w k : Nat} (hw : w < 9223372036854775808) (hk : k < 4) : ((lI w).toUInt64 >>> (((16 * nI k) : Int32).toInt64.toUInt64 &&& Int64.toUInt64 63)).toInt64 = lI ((w / tp k : Nat) : Int) := by
  apply Int64.toBitVec_inj.mp
  apply BitVec.eq_of_toNat_eq
  have e : ∀ s : UInt64, ∀ j : Nat, s.toNat % 64 = j → ((lI w).toUInt64 >>> s).toInt64.toBitVec.toNat = w / 2 ^ j := by
    intro s j hs
    show ((lI w).toUInt64 >>> s).toBitVec.toNat = _
    have : ((lI w).toUInt64 >>> s).toBitVec.toNat = ((lI w).toUInt64 >>> s).toNat := rfl
    rw [this, UInt64.toNat_shiftRight, hs, Nat.shiftRight_eq_div_pow]
    congr 1
    show (lI w).toBitVec.toNat = w
    rw [lI_bv]
    omega
  have h2 : w / tp k ≤ w := Nat.div_le_self _ _
  rw [lI_bv]
  have fin : (((w / tp k : Nat) : Int) % 18446744073709551616).toNat = w / tp k := by
    generalize w / tp k = u at h2 ⊢
    omega
  rw [fin, tp_two]
  match k, hk with
  | 0, _ => exact e _ 0 (by decide)
  | 1, _ => exact e _ 16 (by decide)
  | 2, _ => exact e _ 32 (by decide)
  | 3, _ => exact e _ 48 (by decide)
theorem tp4 : tp 4 = 18446744073709551616 := by decide
theorem sw_of_19 {post : Nat → xH → Prop} {K : xH → Nat → Nat → Int64 → Int64 → Int32 → Prop} {h : xH} {kc ks w : Nat} {x0 : Int64} (hw : w < 9223372036854775808) (k : K h kc ks x0 (lI w) (nI (ln w))) :
    ∀ m i, i + m = 4 → wl_X5_of_19 post K (m + 1) h kc ks x0 (lI w) (nI (min i (ln w))) (nI i) := by
  have l4 : ln w ≤ 4 := ln_le.mpr (by rw [tp4]; omega)
  intro m
  induction m with
  | zero =>
    intro i him
    rw [wl_X5_of_19]
    obtain rfl : i = 4 := by omega
    refine ⟨fun _ => ?_, fun hc => absurd (by decide) hc⟩
    rw [Nat.min_eq_right l4]
    exact k
  | succ m ih =>
    intro i him
    rw [wl_X5_of_19]
    have n4 : (4 : Int32) = nI 4 := rfl
    have l1 : w / tp i ≤ w := Nat.div_le_self _ _
    have z0 : (0 : Int64) = lI 0 := rfl
    rw [lushr hw (by omega), n4, nI_leI (by decide) (by omega)]
    refine ⟨fun hc => by omega, fun _ => ⟨fun hc x5 e5 => ?_, fun hc x5 e5 => ?_⟩⟩
    · rw [nI_1] at e5
      rw [e5]
      have : w / tp i = 0 := by
        generalize w / tp i = u at l1 hc ⊢
        rw [z0, lI_eq (by omega) (by omega)] at hc
        omega
      have l5 : ln w ≤ i := ln_le.mpr ((Nat.div_eq_zero_iff_lt (tp_pos i)).mp this)
      rw [show min i (ln w) = min (i + 1) (ln w) by omega]
      exact ih (i + 1) (by omega)
    · rw [nI_1] at e5
      rw [e5, nI_1]
      have : ¬ ln w ≤ i := by
        intro hle
        exact hc (by rw [Nat.div_eq_of_lt (ln_le.mp hle)]; rfl)
      rw [show nI (i + 1) = nI (min (i + 1) (ln w)) by rw [show min (i + 1) (ln w) = i + 1 by omega]]
      exact (show nI (min (i + 1) (ln w)) = nI (i + 1) by rw [show min (i + 1) (ln w) = i + 1 by omega]) ▸ ih (i + 1) (by omega)
theorem sw_of_63 {post : Nat → xH → Prop} {K : xH → Nat → Nat → Int64 → Nat → Prop} {h0 : xH} {kc ks w q : Nat} {x0 : Int64} (hw : w < 9223372036854775808) (hq : h0 q = none)
    (k : ∀ h, Ext h0 h → Dg h q (ln w) w → K h kc ks x0 q) :
    ∀ m i h f, i + m = ln w → Ext h0 h → h q = some (.inl (0, ln w, .inl f)) → (∀ j, j < i → f j = nI (dg w j)) → wl_X5_of_63 post K (m + 1) h kc ks x0 (lI w) (nI (ln w)) q (nI i) := by
  have l4 : ln w ≤ 4 := ln_le.mpr (by rw [tp4]; omega)
  intro m
  induction m with
  | zero =>
    intro i h f him he hf hd
    rw [wl_X5_of_63]
    obtain rfl : i = ln w := by omega
    exact ⟨fun _ => k h he ⟨f, hf, hd⟩, fun hc => absurd (nI_le (Nat.le_refl _) (by omega)) hc⟩
  | succ m ih =>
    intro i h f him he hf hd
    rw [wl_X5_of_63]
    refine ⟨fun hc => absurd hc (nI_ge (by omega) (by omega)), fun _ => ⟨_, _, hf, vp_in_nI (by omega) (by omega), fun h1 e1 x6 e6 => ?_⟩⟩
    rw [nI_1] at e6
    subst e6
    rw [lushr hw (by omega), nI_clamp (by omega), lI_i, iI_and16, show (((w / tp i : Nat) : Int) % 65536).toNat = dg w i by unfold dg; omega] at e1
    subst e1
    refine ih (i + 1) _ _ (by omega) (he.up hq) x_up_s (fun j hj => ?_)
    by_cases hji : j = i
    · subst hji
      rw [upd_s]
    · rw [upd_n hji]
      exact hd j (by omega)
theorem sw_of {h0 : xH} {mc ms : Nat} {z : Int} {post : Nat → xH → Prop} (hz : z.natAbs < 9223372036854775808) (hG : ∀ q, h0 q = none → G q) (hmc : 2 ≤ mc) (hms : 7 ≤ ms)
    (k : ∀ r h', Ext h0 h' → Wh G h' r z → post r h') : wp_X5_of h0 mc ms (lI z) post := by
  have l4 : ln z.natAbs ≤ 4 := ln_le.mpr (by rw [tp4]; omega)
  have z0 : (0 : Int64) = lI 0 := rfl
  have key : wj_X5_of_12 post h0 mc ms (lI z) (lI z.natAbs) := by
    refine ⟨4 + 1, (show nI (min 0 (ln z.natAbs)) = 0 by rw [Nat.zero_min]; rfl) ▸ sw_of_19 hz ⟨nI_pos (by omega), fun u eu => ?_⟩ 4 0 rfl⟩
    rw [nI_clamp (by omega)] at eu
    subst eu
    refine ⟨by omega, by omega, by omega, fun q hq h1 e1 => ?_⟩
    have he : Ext h0 h1 := by rw [e1]; exact Ext.new hq
    have hqn := fresh_none hq
    refine ⟨ln z.natAbs + 1, sw_of_63 hz hqn ?_ (ln z.natAbs) 0 h1 (fun _ => 0) (by omega) he (by rw [e1]; exact x_up_s) (fun j hj => by omega)⟩
    intro h2 e2 d2
    refine ⟨by omega, by omega, fun q3 hq3 h3 e3 => ?_⟩
    have x3 : Ext h2 h3 := by rw [e3]; exact Ext.new hq3
    rw [z0, lI_le (by omega) (by omega)]
    refine ⟨fun hc => ?_, fun hc => ?_⟩
    · exact sw_make (s := 1) (w := z.natAbs) (e2.tr x3) (e2.none (fresh_none hq3)) (by rw [e3]; exact x_up_s) (d2.ext x3) (by omega) (Nat.le_refl _) (hG _ hqn) (fun _ => Or.inl rfl) (fun h' e' w' => k q3 h' e' (w'.to (by omega)))
    · exact sw_make (s := -1) (w := z.natAbs) (e2.tr x3) (e2.none (fresh_none hq3)) (by rw [e3]; exact x_up_s) (d2.ext x3) (by omega) (Nat.le_refl _) (hG _ hqn) (fun _ => Or.inr rfl) (fun h' e' w' => k q3 h' e' (w'.to (by omega)))
  rw [wp_X5_of]
  refine ⟨fun hc => ?_, fun hc => ?_⟩
  · rw [z0, lI_le (by omega) (by omega)] at hc
    rw [show ((z.natAbs : Nat) : Int) = z by omega] at key
    exact key
  · rw [z0, lI_le (by omega) (by omega)] at hc
    rw [show ((z.natAbs : Nat) : Int) = -z by omega] at key
    rw [lI_neg]
    exact key
theorem lI_or {a b : Nat} (ha : a < 18446744073709551616) (hb : b < 18446744073709551616) : lI a ||| lI b = lI ((a ||| b : Nat) : Int) := by
  apply Int64.toBitVec_inj.mp
  apply BitVec.eq_of_toNat_eq
  have hab : a ||| b < 2 ^ 64 := Nat.or_lt_two_pow ha hb
  rw [Int64.toBitVec_or, BitVec.toNat_or, lI_bv, lI_bv, lI_bv, show ((a : Int) % 18446744073709551616).toNat = a by omega, show ((b : Int) % 18446744073709551616).toNat = b by omega]
  omega
theorem lshl {d k : Nat} (hd : d < 65536) (hk : k < 4) : (nI d).toInt64 <<< (((16 * nI k) : Int32).toInt64 &&& 63) = lI ((d * tp k : Nat) : Int) := by
  rw [i_l d (by omega)]
  apply Int64.toBitVec_inj.mp
  apply BitVec.eq_of_toNat_eq
  have e : ∀ s : Int64, ∀ j : Nat, j ≤ 48 → (s.toBitVec.smod 64).toNat = j → (lI d <<< s).toBitVec.toNat = d * 2 ^ j := by
    intro s j hj hs
    have hp : 2 ^ j ≤ 2 ^ 48 := Nat.pow_le_pow_right (by decide) hj
    have hm : d * 2 ^ j ≤ 65535 * 2 ^ 48 := Nat.mul_le_mul (by omega) hp
    rw [Int64.toBitVec_shiftLeft, BitVec.shiftLeft_eq', BitVec.toNat_shiftLeft, hs, lI_bv, Nat.shiftLeft_eq, show ((d : Int) % 18446744073709551616).toNat = d by omega]
    exact Nat.mod_eq_of_lt (by omega)
  have hm : d * tp k ≤ 65535 * tp 3 := Nat.mul_le_mul (by omega) (tp_mono (by omega))
  have h3 : tp 3 = 281474976710656 := by decide
  rw [lI_bv, show (((d * tp k : Nat) : Int) % 18446744073709551616).toNat = d * tp k by omega, tp_two]
  match k, hk with
  | 0, _ => exact e _ 0 (by decide) (by decide)
  | 1, _ => exact e _ 16 (by decide) (by decide)
  | 2, _ => exact e _ 32 (by decide) (by decide)
  | 3, _ => exact e _ 48 (by decide) (by decide)
theorem sw_asLong_4 {h : xH} {post : Int64 → Prop} {K : Nat → Int64 → Prop} {a : Nat} {x : Int} (ha : Wh G h a x) (hx : x.natAbs < 9223372036854775808) (k : K a (lI x.natAbs)) :
    ∀ m i, i + m = 4 → wl_X5_asLong_4 h post K (m + 1) a (lI ((x.natAbs % tp i : Nat) : Int)) (nI i) := by
  have ha' := ha
  obtain ⟨d, n, a1, -⟩ := ha'
  have n4 : (4 : Int32) = nI 4 := rfl
  intro m
  induction m with
  | zero =>
    intro i him
    rw [wl_X5_asLong_4]
    obtain rfl : i = 4 := by omega
    refine ⟨fun _ => ?_, fun hc => absurd (by decide) hc⟩
    rw [tp4, Nat.mod_eq_of_lt (by omega)]
    exact k
  | succ m ih =>
    intro i him
    rw [wl_X5_asLong_4, n4, nI_leI (by decide) (by omega)]
    refine ⟨fun hc => by omega, fun _ => ⟨_, a1, sw_digit ha (by omega) (fun x1 e1 x3 e3 => ?_)⟩⟩
    rw [nI_1] at e3
    have hl := dg_lt x.natAbs i
    have hm := Nat.mod_lt x.natAbs (tp_pos i)
    have ht : tp i ≤ tp 3 := tp_mono (by omega)
    have h3 : tp 3 = 281474976710656 := by decide
    have hp : dg x.natAbs i * tp i ≤ 65535 * tp 3 := Nat.mul_le_mul (by omega) ht
    rw [lshl hl (by omega), lI_or (by omega) (by omega)] at e1
    rw [Nat.or_comm] at e1
    rw [tp_two] at hm
    have eo : dg x.natAbs i * tp i ||| x.natAbs % tp i = dg x.natAbs i * tp i + x.natAbs % tp i := by
      rw [tp_two]
      exact or_add hm
    rw [eo, Nat.add_comm, ← mod_tp_succ] at e1
    rw [e1, e3]
    exact ih (i + 1) (by omega)
theorem sw_asLong {h : xH} {post : Int64 → Prop} {a : Nat} {x : Int} (ha : Wh G h a x) (hx : x.natAbs < 9223372036854775808) (k : post (lI x)) : wp_X5_asLong h a post := by
  have ha' := ha
  obtain ⟨d, n, a1, -⟩ := ha'
  have key := sw_asLong_4 (h := h) (post := post) (K := fun (x0 : Nat) (x1 : Int64) => ∃ fs_30 : List Value, h x0 = some (.inr (5, fs_30)) ∧ ∃ v_30 : Int32, fs_30[0]? = some (.int v_30) ∧ (0 ≤ v_30 → wj_X5_asLong_42 h post  x1) ∧ (¬ 0 ≤ v_30 → wj_X5_asLong_42 h post  (-x1))) ha hx ?_ 4 0 rfl
  · rw [tp_0, Nat.mod_one] at key
    exact ⟨5, key⟩
  · have z0 : (0 : Int32) = iI 0 := rfl
    refine ⟨_, a1, _, rfl, fun hc => ?_, fun hc => ?_⟩
    · rw [z0, iI_le (by omega) (by rcases sgn3 x with h | h | h <;> omega)] at hc
      rw [show ((x.natAbs : Nat) : Int) = x by rcases sgn3 x with h | h | h <;> omega]
      exact k
    · rw [z0, iI_le (by omega) (by rcases sgn3 x with h | h | h <;> omega)] at hc
      rw [lI_neg, show -((x.natAbs : Nat) : Int) = x by rcases sgn3 x with h | h | h <;> omega]
      exact k
end
