/-! ===== tables as values: what the steps make of representations (own work) ===== -/
def sr (f : Nat → Rat) : Nat → Rat
  | 0 => 0
  | n + 1 => sr f n + f n
theorem sr_congr {f g : Nat → Rat} : ∀ {n : Nat}, (∀ l, l < n → f l = g l) → sr f n = sr g n := by
  intro n
  induction n with
  | zero => exact fun _ => rfl
  | succ n ih =>
    intro h
    rw [sr, sr, ih (fun l hl => h l (by omega)), h n (by omega)]
theorem rq_sm {f : Nat → Int} {D : Nat} (h : 0 < D) : ∀ n, mkRat (sm f n) D = sr (fun l => mkRat (f l) D) n := by
  intro n
  induction n with
  | zero => rw [sm, sr, Rat.zero_mkRat]
  | succ n ih => rw [sm, sr, rq_sum h, ih]
def mv (v1 v2 : Nat → Rat) (c c2 k : Nat) : Rat := sr (fun l => v1 (k / c2 * c + l) * v2 (l * c2 + k % c2)) c
theorem ix' {i j r c : Nat} (hi : i < r) (hj : j < c) : i * c + j < r * c := by
  have : (i + 1) * c ≤ r * c := Nat.mul_le_mul_right _ hi
  rw [Nat.succ_mul] at this
  omega
theorem mv_rp {v1 v2 : Nat → Rat} {z1 z2 : Nat → Int} {r c c2 D1 D2 k : Nat} (h1 : 0 < D1) (h2 : 0 < D2) (e1 : ∀ x, x < r * c → v1 x = mkRat (z1 x) D1) (e2 : ∀ x, x < c * c2 → v2 x = mkRat (z2 x) D2) (hk : k < r * c2) : mv v1 v2 c c2 k = mkRat (mz z1 z2 c c2 k) (D1 * D2) := by
  have hc2 : 0 < c2 := by
    rcases Nat.eq_zero_or_pos c2 with z | z
    · rw [z] at hk
      omega
    · exact z
  rw [mz, rq_sm (Nat.mul_pos h1 h2), mv]
  refine sr_congr (fun l hl => ?_)
  rw [rq_mul, e1 _ (ix' (Nat.div_lt_of_lt_mul (by rw [Nat.mul_comm]; exact hk)) hl), e2 _ (ix' hl (Nat.mod_lt _ hc2))]
def tvv (v : Nat → Rat) (r c k : Nat) : Rat := v (k % r * c + k / r)
/-- values that have a common representation of b bits -/
def Rp (v : Nat → Rat) (N b : Nat) : Prop := ∃ (w : Nat → Int) (E : Nat), 0 < E ∧ E < 2 ^ b ∧ ∀ x, x < N → (w x).natAbs < 2 ^ b ∧ v x = mkRat (w x) E
theorem Rp.mono {v : Nat → Rat} {N b b' : Nat} (h : Rp v N b) (hb : b ≤ b') : Rp v N b' := by
  obtain ⟨w, E, h1, h2, h3⟩ := h
  exact ⟨w, E, h1, up_bits h2 hb, fun x hx => ⟨up_bits (h3 x hx).1 hb, (h3 x hx).2⟩⟩
def hpv (H P : Nat → Rat) (n : Nat) : Nat → Rat := mv (tvv H n 1) P n n
def sv (H P R : Nat → Rat) (n : Nat) : Rat := mv (hpv H P n) H n 1 0 + R 0
def zv (H X : Nat → Rat) (n : Nat) (y : Rat) : Nat → Rat := fun x => y - mv (tvv H n 1) X n 1 x
def kv (H P R : Nat → Rat) (n : Nat) : Nat → Rat := fun x => tvv (hpv H P n) 1 n x / sv H P R n
def mmv (H X P R : Nat → Rat) (n : Nat) (y : Rat) : Nat → Rat := fun x => X x + mv (kv H P R n) (zv H X n y) 1 1 x
def mcv (H P R : Nat → Rat) (n : Nat) : Nat → Rat := fun x => P x - mv (kv H P R n) (hpv H P n) 1 n x
def pmv (F X U : Nat → Rat) (n : Nat) : Nat → Rat := fun x => mv F X n 1 x + U x
def pcv (F P Q : Nat → Rat) (n : Nat) : Nat → Rat := fun x => mv (mv F P n n) (tvv F n n) n n x + Q x
theorem rq_cov {N pi pj S : Int} {d hd w : Nat} (h1 : 0 < d) (h2 : 0 < hd) (h3 : 0 < w) (hS : 0 < S) :
    mkRat N d - mkRat pi (hd * d) / mkRat S (hd * d * hd * w) * mkRat pj (hd * d) = mkRat (N * S - pi * pj * (w : Int)) (d * S.natAbs) := by
  obtain ⟨Y, rfl⟩ : ∃ Y : Nat, S = (Y : Int) := ⟨S.natAbs, by omega⟩
  have hY : 0 < Y := by omega
  simp only [Rat.mkRat_eq_div, Rat.intCast_sub, Rat.intCast_mul, Rat.natCast_mul, Rat.intCast_natCast, Int.natAbs_natCast]
  have := rq_nz h1
  have := rq_nz h2
  have := rq_nz h3
  have := rq_nz hY
  grind
theorem rq_k {p S hd d w : Rat} (h1 : d ≠ 0) (h2 : hd ≠ 0) (h3 : w ≠ 0) (hS : S ≠ 0) : p / (hd * d) / (S / (hd * d * hd * w)) = p * hd * w / S := by grind
theorem rq_mean0 {X p S a hX e hd w b : Rat} (h2 : hd ≠ 0) (h4 : e ≠ 0) (h5 : b ≠ 0) (hS : S ≠ 0) : X / e + p * hd * w / S * (a / b - hX / (hd * e)) = (X * S * b + p * w * (a * (hd * e) - b * hX)) / (e * S * b) := by
  have e1 : a / b - hX / (hd * e) = (a * (hd * e) - b * hX) / (b * (hd * e)) := by grind
  have e2 : p * hd * w / S * ((a * (hd * e) - b * hX) / (b * (hd * e))) = p * w * (a * (hd * e) - b * hX) / (S * b * e) := by
    generalize a * (hd * e) - b * hX = T
    grind
  rw [e1, e2]
  generalize a * (hd * e) - b * hX = T
  generalize p * w * T = T'
  clear e1 e2
  have hn : e * S * b ≠ 0 := by
    intro hc
    rcases Rat.mul_eq_zero.mp hc with hc | hc
    · rcases Rat.mul_eq_zero.mp hc with hc | hc
      · exact h4 hc
      · exact hS hc
    · exact h5 hc
  have hm : S * b * e = e * S * b := by grind
  rw [hm]
  grind
theorem rq_mean {X pi S a hX : Int} {e d hd w b : Nat} (h1 : 0 < d) (h2 : 0 < hd) (h3 : 0 < w) (h4 : 0 < e) (h5 : 0 < b) (hS : 0 < S) :
    mkRat X e + mkRat pi (hd * d) / mkRat S (hd * d * hd * w) * (mkRat a b - mkRat hX (hd * e)) = mkRat (X * S * (b : Int) + pi * (w : Int) * (a * ((hd * e : Nat) : Int) - (b : Int) * hX)) (e * S.natAbs * b) := by
  obtain ⟨Y, rfl⟩ : ∃ Y : Nat, S = (Y : Int) := ⟨S.natAbs, by omega⟩
  have hY : 0 < Y := by omega
  simp only [Rat.mkRat_eq_div, Rat.intCast_sub, Rat.intCast_add, Rat.intCast_mul, Rat.natCast_mul, Rat.intCast_natCast, Int.natAbs_natCast, Int.natCast_mul]
  rw [rq_k (rq_nz h1) (rq_nz h2) (rq_nz h3) (rq_nz hY)]
  exact rq_mean0 (rq_nz h2) (rq_nz h4) (rq_nz h5) (rq_nz hY)
theorem mulN_bits {x y a b : Nat} (hx : x < 2 ^ a) (hy : y < 2 ^ b) : x * y < 2 ^ (a + b) := by
  have := mul_bits (x := (x : Int)) (y := (y : Int)) (a := a) (b := b) (by omega) (by omega)
  rw [Int.natAbs_mul] at this
  exact this
theorem hpv_rp {H P : Nat → Rat} {HH N : Nat → Int} {n hd d : Nat} (h1 : 0 < hd) (h2 : 0 < d) (eH : ∀ x, x < n → H x = mkRat (HH x) hd) (eP : ∀ x, x < n * n → P x = mkRat (N x) d) : ∀ x, x < n → hpv H P n x = mkRat (mz HH N n n x) (hd * d) := by
  intro x hx
  refine mv_rp (r := 1) h1 h2 (fun k hk => ?_) eP (by omega)
  rw [tvv, Nat.mod_eq_of_lt (by omega), Nat.div_eq_of_lt (by omega), eH _ (by omega), Nat.mul_one, Nat.add_zero]
theorem sv_rp {H P R : Nat → Rat} {HH N : Nat → Int} {rn : Int} {n hd d rd : Nat} (h1 : 0 < hd) (h2 : 0 < d) (h3 : 0 < rd) (eH : ∀ x, x < n → H x = mkRat (HH x) hd) (eP : ∀ x, x < n * n → P x = mkRat (N x) d) (eR : R 0 = mkRat rn rd) : sv H P R n = mkRat (mz (mz HH N n n) HH n 1 0 * (rd : Int) + rn * ((hd * d * hd : Nat) : Int)) (hd * d * hd * rd) := by
  have h4 : 0 < hd * d := Nat.mul_pos h1 h2
  rw [sv, mv_rp (r := 1) h4 h1 (z1 := mz HH N n n) (z2 := HH) (fun x hx => hpv_rp h1 h2 eH eP x (by omega)) (fun x hx => eH x (by omega)) (by omega), eR]
  have h5 : 0 < hd * d * hd := Nat.mul_pos h4 h1
  generalize hd * d * hd = q at h5 ⊢
  simp only [Rat.mkRat_eq_div, Rat.intCast_add, Rat.intCast_mul, Rat.natCast_mul, Rat.intCast_natCast]
  have := rq_nz h5
  have := rq_nz h3
  grind
theorem rp_measure {H X P R : Nat → Rat} {n M B b : Nat} {a : Int} (hn1 : 1 ≤ n) (hn2 : n ≤ 2) (rX : Rp X n M) (rP : Rp P (n * n) B) (rH : Rp H n 9) (rR : Rp R 1 5) (ha : a.natAbs ≤ 20) (hb1 : 1 ≤ b) (hb2 : b ≤ 20) (hs : 0 < sv H P R n) :
    Rp (mmv H X P R n (mkRat a b)) n (M + B + 32) ∧ Rp (mcv H P R n) (n * n) (2 * B + 27) := by
  obtain ⟨XX, e, X1, X2, X3⟩ := rX
  obtain ⟨N, d, P1, P2, P3⟩ := rP
  obtain ⟨HH, hd, H1, H2, H3⟩ := rH
  obtain ⟨rr, rd, R1, R2, R3⟩ := rR
  have eH : ∀ x, x < n → H x = mkRat (HH x) hd := fun x hx => (H3 x hx).2
  have eP : ∀ x, x < n * n → P x = mkRat (N x) d := fun x hx => (P3 x hx).2
  have eS := sv_rp (R := R) H1 P1 R1 eH eP (R3 0 (by omega)).2
  have eW := hpv_rp H1 P1 eH eP
  have bW : ∀ k, k < 1 * n → (mz HH N n n k).natAbs < 2 ^ (9 + B + 1) := mz_bits hn2 (fun i hi => (H3 i (by omega)).1) (fun i hi => (P3 i hi).1)
  have bV : (mz (mz HH N n n) HH n 1 0).natAbs < 2 ^ (9 + B + 1 + 9 + 1) := mz_bits (r := 1) hn2 bW (fun i hi => (H3 i (by omega)).1) 0 (by omega)
  generalize mz HH N n n = PP at *
  have b1 : (mz PP HH n 1 0 * (rd : Int)).natAbs < 2 ^ (9 + B + 1 + 9 + 1 + 5) := mul_bits bV (by omega)
  have b2 : (rr 0 * ((hd * d * hd : Nat) : Int)).natAbs < 2 ^ (5 + (9 + B + 9)) := mul_bits (R3 0 (by omega)).1 (by rw [Int.natAbs_natCast]; exact mulN_bits (mulN_bits H2 P2) H2)
  have bS := add_bits (c := B + 25) b1 b2 (by omega) (by omega)
  generalize mz PP HH n 1 0 * (rd : Int) + rr 0 * ((hd * d * hd : Nat) : Int) = S at *
  have hS : 0 < S := by
    rw [eS] at hs
    have h1 : 0 ≤ mkRat S (hd * d * hd * rd) := Rat.le_of_lt hs
    refine rq_pos (Nat.mul_pos (Nat.mul_pos (Nat.mul_pos H1 P1) H1) R1) h1 (fun z => ?_)
    rw [z, Rat.zero_mkRat] at hs
    exact absurd hs (by decide)
  have hb5 : b < 2 ^ 5 := by omega
  have ha5 : a.natAbs < 2 ^ 5 := by omega
  have ek : ∀ x, x < n → kv H P R n x = mkRat (PP x) (hd * d) / mkRat S (hd * d * hd * rd) := by
    intro x hx
    rw [kv, tvv, eS, Nat.mod_one, Nat.div_one, Nat.zero_mul, Nat.zero_add, eW x hx]
  refine ⟨⟨fun x => XX x * S * (b : Int) + PP x * (rd : Int) * (a * ((hd * e : Nat) : Int) - (b : Int) * mz HH XX n 1 0), e * S.natAbs * b, Nat.mul_pos (Nat.mul_pos X1 (by omega)) (by omega), ?_, fun x hx => ⟨?_, ?_⟩⟩, ⟨fun x => N x * S - PP (x / n) * PP (x % n) * (rd : Int), d * S.natAbs, Nat.mul_pos P1 (by omega), ?_, fun x hx => ⟨?_, ?_⟩⟩⟩
  · exact up_bits (mulN_bits (mulN_bits X2 bS) hb5) (by omega)
  · have c1 : (mz HH XX n 1 0).natAbs < 2 ^ (9 + M + 1) := mz_bits (r := 1) hn2 (fun i hi => (H3 i (by omega)).1) (fun i hi => (X3 i (by omega)).1) 0 (by omega)
    have c2 : (a * ((hd * e : Nat) : Int)).natAbs < 2 ^ (5 + (9 + M)) := mul_bits ha5 (by rw [Int.natAbs_natCast]; exact mulN_bits H2 X2)
    have c3 : (-((b : Int) * mz HH XX n 1 0)).natAbs < 2 ^ (5 + (9 + M + 1)) := by
      rw [Int.natAbs_neg]
      exact mul_bits (by omega) c1
    have c4 := add_bits (c := M + 15) c2 c3 (by omega) (by omega)
    rw [← Int.sub_eq_add_neg] at c4
    have c5 : (PP x * (rd : Int)).natAbs < 2 ^ (9 + B + 1 + 5) := mul_bits (bW x (by omega)) (by omega)
    have c6 := mul_bits c5 c4
    have c7 : (XX x * S * (b : Int)).natAbs < 2 ^ (M + (B + 25 + 1) + 5) := mul_bits (mul_bits (X3 x hx).1 bS) (by omega)
    exact up_bits (add_bits (c := M + B + 31) c7 c6 (by omega) (by omega)) (by omega)
  · rw [mmv, mv, sr, sr, Rat.zero_add]
    have ez : zv H X n (mkRat a b) (0 * 1 + x % 1) = mkRat a b - mkRat (mz HH XX n 1 0) (hd * e) := by
      rw [zv, Nat.mod_one, Nat.zero_mul, Nat.zero_add, mv_rp (r := 1) (z1 := HH) (z2 := XX) H1 X1 (fun k hk => ?_) (fun k hk => (X3 k (by omega)).2) (by omega)]
      rw [tvv, Nat.mod_eq_of_lt (by omega), Nat.div_eq_of_lt (by omega), eH _ (by omega), Nat.mul_one, Nat.add_zero]
    rw [ez, Nat.div_one, Nat.mul_one, Nat.add_zero, ek x hx, (X3 x hx).2]
    exact rq_mean P1 H1 R1 X1 hb1 hS
  · exact up_bits (mulN_bits P2 bS) (by omega)
  · have hn : x / n < n := Nat.div_lt_of_lt_mul hx
    have hm : x % n < n := Nat.mod_lt _ (by omega)
    have c1 : (N x * S).natAbs < 2 ^ (B + (B + 25 + 1)) := mul_bits (P3 x hx).1 bS
    have c2 : (-(PP (x / n) * PP (x % n) * (rd : Int))).natAbs < 2 ^ (9 + B + 1 + (9 + B + 1) + 5) := by
      rw [Int.natAbs_neg]
      exact mul_bits (mul_bits (bW _ (by omega)) (bW _ (by omega))) (by omega)
    show (N x * S - PP (x / n) * PP (x % n) * (rd : Int)).natAbs < _
    rw [Int.sub_eq_add_neg]
    exact up_bits (add_bits (c := 2 * B + 26) c1 c2 (by omega) (by omega)) (by omega)
  · have hn : x / n < n := Nat.div_lt_of_lt_mul hx
    have hm : x % n < n := Nat.mod_lt _ (by omega)
    rw [mcv, mv, sr, sr, Rat.zero_add, Nat.mul_one, Nat.add_zero, Nat.zero_mul, Nat.zero_add, ek _ hn, eW _ hm, eP x hx]
    exact rq_cov P1 H1 R1 hS
