section XLAW
variable {p : Program} {l : Launch} {e : Env} {s : State} {m : MethodId} {below : List Frame} {meth : Method} {c : Code} {G : xG} {b L : Nat} {xs : Nat → Int32}
set_option maxRecDepth 100000 in
def wj_L_law_852 (L : Nat) (xs : Nat → Int32) (post : Unit) (Rc : xH → Nat → Nat → Nat → Nat → Nat → Int32 → Prop) (K131 : xH → Nat → Nat → Prop) (K215 : xH → Nat → Nat → Prop) (K239 : xH → Nat → Nat → Prop) (K266 : xH → Nat → Nat → Prop) (K283 : xH → Nat → Nat → Prop) (K334 : xH → Nat → Nat → Prop) (K351 : xH → Nat → Nat → Prop) (K414 : xH → Nat → Nat → Prop) (K431 : xH → Nat → Nat → Prop) (K506 : xH → Nat → Nat → Prop) (K523 : xH → Nat → Nat → Prop) (K610 : xH → Nat → Nat → Prop) (K627 : xH → Nat → Nat → Prop) (K702 : xH → Nat → Nat → Prop) (K718 : xH → Nat → Nat → Prop) (K805 : xH → Nat → Nat → Prop) (K822 : xH → Nat → Nat → Prop) (K850 : xH → Nat → Nat → Prop) (K858 : xH → Nat → Nat → Prop) (h : xH) (kc : Nat) (ks : Nat) (x1 : Nat) (x2 : Nat) (x3 : Nat) (x4 : Int32) : Prop := ∀ (x4_852 : Int32), x4_852 = x4 + 6 → Rc h kc ks x1 x2 x3 x4_852
set_option maxRecDepth 100000 in
def wj_L_law_285 (L : Nat) (xs : Nat → Int32) (post : Unit) (Rc : xH → Nat → Nat → Nat → Nat → Nat → Int32 → Prop) (K131 : xH → Nat → Nat → Prop) (K215 : xH → Nat → Nat → Prop) (K239 : xH → Nat → Nat → Prop) (K266 : xH → Nat → Nat → Prop) (K283 : xH → Nat → Nat → Prop) (K334 : xH → Nat → Nat → Prop) (K351 : xH → Nat → Nat → Prop) (K414 : xH → Nat → Nat → Prop) (K431 : xH → Nat → Nat → Prop) (K506 : xH → Nat → Nat → Prop) (K523 : xH → Nat → Nat → Prop) (K610 : xH → Nat → Nat → Prop) (K627 : xH → Nat → Nat → Prop) (K702 : xH → Nat → Nat → Prop) (K718 : xH → Nat → Nat → Prop) (K805 : xH → Nat → Nat → Prop) (K822 : xH → Nat → Nat → Prop) (K850 : xH → Nat → Nat → Prop) (K858 : xH → Nat → Nat → Prop) (h : xH) (kc : Nat) (ks : Nat) (x1 : Nat) (x2 : Nat) (x3 : Nat) (x4 : Int32) : Prop := wj_L_law_852 L xs post (Rc) K131 K215 K239 K266 K283 K334 K351 K414 K431 K506 K523 K610 K627 K702 K718 K805 K822 K850 K858 h kc ks x1 x2 x3 x4
set_option maxRecDepth 100000 in
def wj_L_law_353 (L : Nat) (xs : Nat → Int32) (post : Unit) (Rc : xH → Nat → Nat → Nat → Nat → Nat → Int32 → Prop) (K131 : xH → Nat → Nat → Prop) (K215 : xH → Nat → Nat → Prop) (K239 : xH → Nat → Nat → Prop) (K266 : xH → Nat → Nat → Prop) (K283 : xH → Nat → Nat → Prop) (K334 : xH → Nat → Nat → Prop) (K351 : xH → Nat → Nat → Prop) (K414 : xH → Nat → Nat → Prop) (K431 : xH → Nat → Nat → Prop) (K506 : xH → Nat → Nat → Prop) (K523 : xH → Nat → Nat → Prop) (K610 : xH → Nat → Nat → Prop) (K627 : xH → Nat → Nat → Prop) (K702 : xH → Nat → Nat → Prop) (K718 : xH → Nat → Nat → Prop) (K805 : xH → Nat → Nat → Prop) (K822 : xH → Nat → Nat → Prop) (K850 : xH → Nat → Nat → Prop) (K858 : xH → Nat → Nat → Prop) (h : xH) (kc : Nat) (ks : Nat) (x1 : Nat) (x2 : Nat) (x3 : Nat) (x4 : Int32) : Prop := wj_L_law_852 L xs post (Rc) K131 K215 K239 K266 K283 K334 K351 K414 K431 K506 K523 K610 K627 K702 K718 K805 K822 K850 K858 h kc ks x1 x2 x3 x4
set_option maxRecDepth 100000 in
def wj_L_law_433 (L : Nat) (xs : Nat → Int32) (post : Unit) (Rc : xH → Nat → Nat → Nat → Nat → Nat → Int32 → Prop) (K131 : xH → Nat → Nat → Prop) (K215 : xH → Nat → Nat → Prop) (K239 : xH → Nat → Nat → Prop) (K266 : xH → Nat → Nat → Prop) (K283 : xH → Nat → Nat → Prop) (K334 : xH → Nat → Nat → Prop) (K351 : xH → Nat → Nat → Prop) (K414 : xH → Nat → Nat → Prop) (K431 : xH → Nat → Nat → Prop) (K506 : xH → Nat → Nat → Prop) (K523 : xH → Nat → Nat → Prop) (K610 : xH → Nat → Nat → Prop) (K627 : xH → Nat → Nat → Prop) (K702 : xH → Nat → Nat → Prop) (K718 : xH → Nat → Nat → Prop) (K805 : xH → Nat → Nat → Prop) (K822 : xH → Nat → Nat → Prop) (K850 : xH → Nat → Nat → Prop) (K858 : xH → Nat → Nat → Prop) (h : xH) (kc : Nat) (ks : Nat) (x1 : Nat) (x2 : Nat) (x3 : Nat) (x4 : Int32) : Prop := wj_L_law_852 L xs post (Rc) K131 K215 K239 K266 K283 K334 K351 K414 K431 K506 K523 K610 K627 K702 K718 K805 K822 K850 K858 h kc ks x1 x2 x3 x4
set_option maxRecDepth 100000 in
def wj_L_law_525 (L : Nat) (xs : Nat → Int32) (post : Unit) (Rc : xH → Nat → Nat → Nat → Nat → Nat → Int32 → Prop) (K131 : xH → Nat → Nat → Prop) (K215 : xH → Nat → Nat → Prop) (K239 : xH → Nat → Nat → Prop) (K266 : xH → Nat → Nat → Prop) (K283 : xH → Nat → Nat → Prop) (K334 : xH → Nat → Nat → Prop) (K351 : xH → Nat → Nat → Prop) (K414 : xH → Nat → Nat → Prop) (K431 : xH → Nat → Nat → Prop) (K506 : xH → Nat → Nat → Prop) (K523 : xH → Nat → Nat → Prop) (K610 : xH → Nat → Nat → Prop) (K627 : xH → Nat → Nat → Prop) (K702 : xH → Nat → Nat → Prop) (K718 : xH → Nat → Nat → Prop) (K805 : xH → Nat → Nat → Prop) (K822 : xH → Nat → Nat → Prop) (K850 : xH → Nat → Nat → Prop) (K858 : xH → Nat → Nat → Prop) (h : xH) (kc : Nat) (ks : Nat) (x1 : Nat) (x2 : Nat) (x3 : Nat) (x4 : Int32) : Prop := wj_L_law_852 L xs post (Rc) K131 K215 K239 K266 K283 K334 K351 K414 K431 K506 K523 K610 K627 K702 K718 K805 K822 K850 K858 h kc ks x1 x2 x3 x4
set_option maxRecDepth 100000 in
def wj_L_law_629 (L : Nat) (xs : Nat → Int32) (post : Unit) (Rc : xH → Nat → Nat → Nat → Nat → Nat → Int32 → Prop) (K131 : xH → Nat → Nat → Prop) (K215 : xH → Nat → Nat → Prop) (K239 : xH → Nat → Nat → Prop) (K266 : xH → Nat → Nat → Prop) (K283 : xH → Nat → Nat → Prop) (K334 : xH → Nat → Nat → Prop) (K351 : xH → Nat → Nat → Prop) (K414 : xH → Nat → Nat → Prop) (K431 : xH → Nat → Nat → Prop) (K506 : xH → Nat → Nat → Prop) (K523 : xH → Nat → Nat → Prop) (K610 : xH → Nat → Nat → Prop) (K627 : xH → Nat → Nat → Prop) (K702 : xH → Nat → Nat → Prop) (K718 : xH → Nat → Nat → Prop) (K805 : xH → Nat → Nat → Prop) (K822 : xH → Nat → Nat → Prop) (K850 : xH → Nat → Nat → Prop) (K858 : xH → Nat → Nat → Prop) (h : xH) (kc : Nat) (ks : Nat) (x1 : Nat) (x2 : Nat) (x3 : Nat) (x4 : Int32) : Prop := wj_L_law_852 L xs post (Rc) K131 K215 K239 K266 K283 K334 K351 K414 K431 K506 K523 K610 K627 K702 K718 K805 K822 K850 K858 h kc ks x1 x2 x3 x4
set_option maxRecDepth 100000 in
def wj_L_law_720 (L : Nat) (xs : Nat → Int32) (post : Unit) (Rc : xH → Nat → Nat → Nat → Nat → Nat → Int32 → Prop) (K131 : xH → Nat → Nat → Prop) (K215 : xH → Nat → Nat → Prop) (K239 : xH → Nat → Nat → Prop) (K266 : xH → Nat → Nat → Prop) (K283 : xH → Nat → Nat → Prop) (K334 : xH → Nat → Nat → Prop) (K351 : xH → Nat → Nat → Prop) (K414 : xH → Nat → Nat → Prop) (K431 : xH → Nat → Nat → Prop) (K506 : xH → Nat → Nat → Prop) (K523 : xH → Nat → Nat → Prop) (K610 : xH → Nat → Nat → Prop) (K627 : xH → Nat → Nat → Prop) (K702 : xH → Nat → Nat → Prop) (K718 : xH → Nat → Nat → Prop) (K805 : xH → Nat → Nat → Prop) (K822 : xH → Nat → Nat → Prop) (K850 : xH → Nat → Nat → Prop) (K858 : xH → Nat → Nat → Prop) (h : xH) (kc : Nat) (ks : Nat) (x1 : Nat) (x2 : Nat) (x3 : Nat) (x4 : Int32) : Prop := wj_L_law_852 L xs post (Rc) K131 K215 K239 K266 K283 K334 K351 K414 K431 K506 K523 K610 K627 K702 K718 K805 K822 K850 K858 h kc ks x1 x2 x3 x4
set_option maxRecDepth 100000 in
def wj_L_law_824 (L : Nat) (xs : Nat → Int32) (post : Unit) (Rc : xH → Nat → Nat → Nat → Nat → Nat → Int32 → Prop) (K131 : xH → Nat → Nat → Prop) (K215 : xH → Nat → Nat → Prop) (K239 : xH → Nat → Nat → Prop) (K266 : xH → Nat → Nat → Prop) (K283 : xH → Nat → Nat → Prop) (K334 : xH → Nat → Nat → Prop) (K351 : xH → Nat → Nat → Prop) (K414 : xH → Nat → Nat → Prop) (K431 : xH → Nat → Nat → Prop) (K506 : xH → Nat → Nat → Prop) (K523 : xH → Nat → Nat → Prop) (K610 : xH → Nat → Nat → Prop) (K627 : xH → Nat → Nat → Prop) (K702 : xH → Nat → Nat → Prop) (K718 : xH → Nat → Nat → Prop) (K805 : xH → Nat → Nat → Prop) (K822 : xH → Nat → Nat → Prop) (K850 : xH → Nat → Nat → Prop) (K858 : xH → Nat → Nat → Prop) (h : xH) (kc : Nat) (ks : Nat) (x1 : Nat) (x2 : Nat) (x3 : Nat) (x4 : Int32) : Prop := wj_L_law_852 L xs post (Rc) K131 K215 K239 K266 K283 K334 K351 K414 K431 K506 K523 K610 K627 K702 K718 K805 K822 K850 K858 h kc ks x1 x2 x3 x4
set_option maxRecDepth 100000 in
def wl_L_law_23 (L : Nat) (xs : Nat → Int32) (post : Unit) (K131 : xH → Nat → Nat → Prop) (K215 : xH → Nat → Nat → Prop) (K239 : xH → Nat → Nat → Prop) (K266 : xH → Nat → Nat → Prop) (K283 : xH → Nat → Nat → Prop) (K334 : xH → Nat → Nat → Prop) (K351 : xH → Nat → Nat → Prop) (K414 : xH → Nat → Nat → Prop) (K431 : xH → Nat → Nat → Prop) (K506 : xH → Nat → Nat → Prop) (K523 : xH → Nat → Nat → Prop) (K610 : xH → Nat → Nat → Prop) (K627 : xH → Nat → Nat → Prop) (K702 : xH → Nat → Nat → Prop) (K718 : xH → Nat → Nat → Prop) (K805 : xH → Nat → Nat → Prop) (K822 : xH → Nat → Nat → Prop) (K850 : xH → Nat → Nat → Prop) (K858 : xH → Nat → Nat → Prop) : Nat → xH → Nat → Nat → Nat → Nat → Nat → Int32 → Prop
  | 0, _, _, _, _, _, _, _ => False
  | n + 1, h, kc, ks, x1, x2, x3, x4 => (((Int32.ofNat L) - 6) < x4 → K858 h kc ks) ∧ (¬ ((Int32.ofNat L) - 6) < x4 → vp_in x4 L ∧ (((((xs (x4 : Int32).toNatClampNeg) &&& 15)).toInt < 0 ∨ 10 < (((xs (x4 : Int32).toNatClampNeg) &&& 15)).toInt) → wj_L_law_852 L xs post (wl_L_law_23 L xs post K131 K215 K239 K266 K283 K334 K351 K414 K431 K506 K523 K610 K627 K702 K718 K805 K822 K850 K858 n) K131 K215 K239 K266 K283 K334 K351 K414 K431 K506 K523 K610 K627 K702 K718 K805 K822 K850 K858 h kc ks x1 x2 x3 x4) ∧ (((xs (x4 : Int32).toNatClampNeg) &&& 15) = 0 → vp_in (x4 + 1) L ∧ ∃ mc_107 ms_107 : Nat, mc_107 ≤ kc ∧ ms_107 ≤ ks ∧ wp_L_begin h mc_107 ms_107 x1 (xs ((x4 + 1) : Int32).toNatClampNeg) (fun (r_107 : Int32) (h_107 : xH) => vp_in (x4 + 1) L ∧ ∃ fs_119 : List Value, h_107 x2 = some (.inr (7, fs_119)) ∧ wp_A7_begin h_107  x2 (xs ((x4 + 1) : Int32).toNatClampNeg) (fun (h_119 : xH) => ∃ fs_123 : List Value, h_119 x2 = some (.inr (7, fs_123)) ∧ wp_A7_thrown h_119  x2 (fun (r_123 : Int32) (h_123 : xH) => (r_123 = r_107 → wj_L_law_852 L xs post (wl_L_law_23 L xs post K131 K215 K239 K266 K283 K334 K351 K414 K431 K506 K523 K610 K627 K702 K718 K805 K822 K850 K858 n) K131 K215 K239 K266 K283 K334 K351 K414 K431 K506 K523 K610 K627 K702 K718 K805 K822 K850 K858 h_123 (kc - mc_107) (ks - ms_107) x1 x2 x3 x4) ∧ (¬ r_123 = r_107 → K131 h_123 (kc - mc_107) (ks - ms_107)))))) ∧ (((xs (x4 : Int32).toNatClampNeg) &&& 15) = 1 → vp_in (x4 + 1) L ∧ vp_in (x4 + 2) L ∧ vp_in (x4 + 3) L ∧ vp_in (x4 + 4) L ∧ vp_in (x4 + 5) L ∧ ∃ mc_167 ms_167 : Nat, mc_167 ≤ kc ∧ ms_167 ≤ ks ∧ wp_L_set h mc_167 ms_167 x1 (xs ((x4 + 1) : Int32).toNatClampNeg) (xs ((x4 + 2) : Int32).toNatClampNeg) (xs ((x4 + 3) : Int32).toNatClampNeg) (xs ((x4 + 4) : Int32).toNatClampNeg) (xs ((x4 + 5) : Int32).toNatClampNeg) (fun (r_167 : Int32) (h_167 : xH) => vp_in (x4 + 1) L ∧ vp_in (x4 + 2) L ∧ vp_in (x4 + 3) L ∧ vp_in (x4 + 4) L ∧ vp_in (x4 + 5) L ∧ ∃ fs_203 : List Value, h_167 x2 = some (.inr (7, fs_203)) ∧ wp_A7_set h_167  x2 (xs ((x4 + 1) : Int32).toNatClampNeg) (xs ((x4 + 2) : Int32).toNatClampNeg) (xs ((x4 + 3) : Int32).toNatClampNeg) (xs ((x4 + 4) : Int32).toNatClampNeg) (xs ((x4 + 5) : Int32).toNatClampNeg) (fun (h_203 : xH) => ∃ fs_207 : List Value, h_203 x2 = some (.inr (7, fs_207)) ∧ wp_A7_thrown h_203  x2 (fun (r_207 : Int32) (h_207 : xH) => (r_207 = r_167 → wj_L_law_852 L xs post (wl_L_law_23 L xs post K131 K215 K239 K266 K283 K334 K351 K414 K431 K506 K523 K610 K627 K702 K718 K805 K822 K850 K858 n) K131 K215 K239 K266 K283 K334 K351 K414 K431 K506 K523 K610 K627 K702 K718 K805 K822 K850 K858 h_207 (kc - mc_167) (ks - ms_167) x1 x2 x3 x4) ∧ (¬ r_207 = r_167 → K215 h_207 (kc - mc_167) (ks - ms_167)))))) ∧ (((xs (x4 : Int32).toNatClampNeg) &&& 15) = 2 → ∃ mc_221 ms_221 : Nat, mc_221 ≤ kc ∧ ms_221 ≤ ks ∧ wp_L_start h mc_221 ms_221 x1 (fun (r_221 : Int32) (h_221 : xH) => ∃ fs_227 : List Value, h_221 x2 = some (.inr (7, fs_227)) ∧ wp_A7_start h_221  x2 (fun (h_227 : xH) => ∃ fs_231 : List Value, h_227 x2 = some (.inr (7, fs_231)) ∧ wp_A7_thrown h_227  x2 (fun (r_231 : Int32) (h_231 : xH) => (r_231 = r_221 → wj_L_law_852 L xs post (wl_L_law_23 L xs post K131 K215 K239 K266 K283 K334 K351 K414 K431 K506 K523 K610 K627 K702 K718 K805 K822 K850 K858 n) K131 K215 K239 K266 K283 K334 K351 K414 K431 K506 K523 K610 K627 K702 K718 K805 K822 K850 K858 h_231 (kc - mc_221) (ks - ms_221) x1 x2 x3 x4) ∧ (¬ r_231 = r_221 → K239 h_231 (kc - mc_221) (ks - ms_221)))))) ∧ (((xs (x4 : Int32).toNatClampNeg) &&& 15) = 3 → ∃ mc_246 ms_246 : Nat, mc_246 ≤ kc ∧ ms_246 ≤ ks ∧ wp_L_predict h mc_246 ms_246 x1 x3 (fun (r_246 : Int32) (h_246 : xH) => ∃ fs_252 : List Value, h_246 x2 = some (.inr (7, fs_252)) ∧ wp_A7_predict h_246  x2 (fun (r_252 : Int32) (h_252 : xH) => ∃ fs_258 : List Value, h_252 x2 = some (.inr (7, fs_258)) ∧ wp_A7_thrown h_252  x2 (fun (r_258 : Int32) (h_258 : xH) => (r_258 = r_246 → (¬ r_246 = 0 → wj_L_law_285 L xs post (wl_L_law_23 L xs post K131 K215 K239 K266 K283 K334 K351 K414 K431 K506 K523 K610 K627 K702 K718 K805 K822 K850 K858 n) K131 K215 K239 K266 K283 K334 K351 K414 K431 K506 K523 K610 K627 K702 K718 K805 K822 K850 K858 h_258 (kc - mc_246) (ks - ms_246) x1 x2 x3 x4) ∧ (r_246 = 0 → ∃ (n_275 : Nat) (f_275 : Nat → Int64), h_258 x3 = some (.inl (1, n_275, .inr (.inl f_275))) ∧ vp_in 0 n_275 ∧ ((f_275 (0 : Int32).toNatClampNeg) = ((r_252 : Int32).toInt64) → wj_L_law_285 L xs post (wl_L_law_23 L xs post K131 K215 K239 K266 K283 K334 K351 K414 K431 K506 K523 K610 K627 K702 K718 K805 K822 K850 K858 n) K131 K215 K239 K266 K283 K334 K351 K414 K431 K506 K523 K610 K627 K702 K718 K805 K822 K850 K858 h_258 (kc - mc_246) (ks - ms_246) x1 x2 x3 x4) ∧ (¬ (f_275 (0 : Int32).toNatClampNeg) = ((r_252 : Int32).toInt64) → K283 h_258 (kc - mc_246) (ks - ms_246)))) ∧ (¬ r_258 = r_246 → K266 h_258 (kc - mc_246) (ks - ms_246)))))) ∧ (((xs (x4 : Int32).toNatClampNeg) &&& 15) = 4 → vp_in (x4 + 1) L ∧ vp_in (x4 + 2) L ∧ ∃ mc_302 ms_302 : Nat, mc_302 ≤ kc ∧ ms_302 ≤ ks ∧ wp_L_measure h mc_302 ms_302 x1 (xs ((x4 + 1) : Int32).toNatClampNeg) (xs ((x4 + 2) : Int32).toNatClampNeg) x3 (fun (r_302 : Int32) (h_302 : xH) => vp_in (x4 + 1) L ∧ vp_in (x4 + 2) L ∧ ∃ fs_320 : List Value, h_302 x2 = some (.inr (7, fs_320)) ∧ wp_A7_measure h_302  x2 (xs ((x4 + 1) : Int32).toNatClampNeg) (xs ((x4 + 2) : Int32).toNatClampNeg) (fun (r_320 : Int32) (h_320 : xH) => ∃ fs_326 : List Value, h_320 x2 = some (.inr (7, fs_326)) ∧ wp_A7_thrown h_320  x2 (fun (r_326 : Int32) (h_326 : xH) => (r_326 = r_302 → (¬ r_302 = 0 → wj_L_law_353 L xs post (wl_L_law_23 L xs post K131 K215 K239 K266 K283 K334 K351 K414 K431 K506 K523 K610 K627 K702 K718 K805 K822 K850 K858 n) K131 K215 K239 K266 K283 K334 K351 K414 K431 K506 K523 K610 K627 K702 K718 K805 K822 K850 K858 h_326 (kc - mc_302) (ks - ms_302) x1 x2 x3 x4) ∧ (r_302 = 0 → ∃ (n_343 : Nat) (f_343 : Nat → Int64), h_326 x3 = some (.inl (1, n_343, .inr (.inl f_343))) ∧ vp_in 0 n_343 ∧ ((f_343 (0 : Int32).toNatClampNeg) = ((r_320 : Int32).toInt64) → wj_L_law_353 L xs post (wl_L_law_23 L xs post K131 K215 K239 K266 K283 K334 K351 K414 K431 K506 K523 K610 K627 K702 K718 K805 K822 K850 K858 n) K131 K215 K239 K266 K283 K334 K351 K414 K431 K506 K523 K610 K627 K702 K718 K805 K822 K850 K858 h_326 (kc - mc_302) (ks - ms_302) x1 x2 x3 x4) ∧ (¬ (f_343 (0 : Int32).toNatClampNeg) = ((r_320 : Int32).toInt64) → K351 h_326 (kc - mc_302) (ks - ms_302)))) ∧ (¬ r_326 = r_302 → K334 h_326 (kc - mc_302) (ks - ms_302)))))) ∧ (((xs (x4 : Int32).toNatClampNeg) &&& 15) = 5 → vp_in (x4 + 1) L ∧ vp_in (x4 + 2) L ∧ vp_in (x4 + 3) L ∧ ∃ mc_376 ms_376 : Nat, mc_376 ≤ kc ∧ ms_376 ≤ ks ∧ wp_L_sign h mc_376 ms_376 x1 (xs ((x4 + 1) : Int32).toNatClampNeg) (xs ((x4 + 2) : Int32).toNatClampNeg) (xs ((x4 + 3) : Int32).toNatClampNeg) x3 (fun (r_376 : Int32) (h_376 : xH) => vp_in (x4 + 1) L ∧ vp_in (x4 + 2) L ∧ vp_in (x4 + 3) L ∧ ∃ fs_400 : List Value, h_376 x2 = some (.inr (7, fs_400)) ∧ wp_A7_sign h_376  x2 (xs ((x4 + 1) : Int32).toNatClampNeg) (xs ((x4 + 2) : Int32).toNatClampNeg) (xs ((x4 + 3) : Int32).toNatClampNeg) (fun (r_400 : Int32) (h_400 : xH) => ∃ fs_406 : List Value, h_400 x2 = some (.inr (7, fs_406)) ∧ wp_A7_thrown h_400  x2 (fun (r_406 : Int32) (h_406 : xH) => (r_406 = r_376 → (¬ r_376 = 0 → wj_L_law_433 L xs post (wl_L_law_23 L xs post K131 K215 K239 K266 K283 K334 K351 K414 K431 K506 K523 K610 K627 K702 K718 K805 K822 K850 K858 n) K131 K215 K239 K266 K283 K334 K351 K414 K431 K506 K523 K610 K627 K702 K718 K805 K822 K850 K858 h_406 (kc - mc_376) (ks - ms_376) x1 x2 x3 x4) ∧ (r_376 = 0 → ∃ (n_423 : Nat) (f_423 : Nat → Int64), h_406 x3 = some (.inl (1, n_423, .inr (.inl f_423))) ∧ vp_in 0 n_423 ∧ ((f_423 (0 : Int32).toNatClampNeg) = ((r_400 : Int32).toInt64) → wj_L_law_433 L xs post (wl_L_law_23 L xs post K131 K215 K239 K266 K283 K334 K351 K414 K431 K506 K523 K610 K627 K702 K718 K805 K822 K850 K858 n) K131 K215 K239 K266 K283 K334 K351 K414 K431 K506 K523 K610 K627 K702 K718 K805 K822 K850 K858 h_406 (kc - mc_376) (ks - ms_376) x1 x2 x3 x4) ∧ (¬ (f_423 (0 : Int32).toNatClampNeg) = ((r_400 : Int32).toInt64) → K431 h_406 (kc - mc_376) (ks - ms_376)))) ∧ (¬ r_406 = r_376 → K414 h_406 (kc - mc_376) (ks - ms_376)))))) ∧ (((xs (x4 : Int32).toNatClampNeg) &&& 15) = 6 → vp_in (x4 + 1) L ∧ vp_in (x4 + 2) L ∧ vp_in (x4 + 3) L ∧ vp_in (x4 + 4) L ∧ ∃ mc_462 ms_462 : Nat, mc_462 ≤ kc ∧ ms_462 ≤ ks ∧ wp_L_pieces h mc_462 ms_462 x1 (xs ((x4 + 1) : Int32).toNatClampNeg) (xs ((x4 + 2) : Int32).toNatClampNeg) (xs ((x4 + 3) : Int32).toNatClampNeg) (xs ((x4 + 4) : Int32).toNatClampNeg) x3 (fun (r_462 : Int32) (h_462 : xH) => vp_in (x4 + 1) L ∧ vp_in (x4 + 2) L ∧ vp_in (x4 + 3) L ∧ vp_in (x4 + 4) L ∧ ∃ fs_492 : List Value, h_462 x2 = some (.inr (7, fs_492)) ∧ wp_A7_pieces h_462  x2 (xs ((x4 + 1) : Int32).toNatClampNeg) (xs ((x4 + 2) : Int32).toNatClampNeg) (xs ((x4 + 3) : Int32).toNatClampNeg) (xs ((x4 + 4) : Int32).toNatClampNeg) (fun (r_492 : Int32) (h_492 : xH) => ∃ fs_498 : List Value, h_492 x2 = some (.inr (7, fs_498)) ∧ wp_A7_thrown h_492  x2 (fun (r_498 : Int32) (h_498 : xH) => (r_498 = r_462 → (¬ r_462 = 0 → wj_L_law_525 L xs post (wl_L_law_23 L xs post K131 K215 K239 K266 K283 K334 K351 K414 K431 K506 K523 K610 K627 K702 K718 K805 K822 K850 K858 n) K131 K215 K239 K266 K283 K334 K351 K414 K431 K506 K523 K610 K627 K702 K718 K805 K822 K850 K858 h_498 (kc - mc_462) (ks - ms_462) x1 x2 x3 x4) ∧ (r_462 = 0 → ∃ (n_515 : Nat) (f_515 : Nat → Int64), h_498 x3 = some (.inl (1, n_515, .inr (.inl f_515))) ∧ vp_in 0 n_515 ∧ ((f_515 (0 : Int32).toNatClampNeg) = ((r_492 : Int32).toInt64) → wj_L_law_525 L xs post (wl_L_law_23 L xs post K131 K215 K239 K266 K283 K334 K351 K414 K431 K506 K523 K610 K627 K702 K718 K805 K822 K850 K858 n) K131 K215 K239 K266 K283 K334 K351 K414 K431 K506 K523 K610 K627 K702 K718 K805 K822 K850 K858 h_498 (kc - mc_462) (ks - ms_462) x1 x2 x3 x4) ∧ (¬ (f_515 (0 : Int32).toNatClampNeg) = ((r_492 : Int32).toInt64) → K523 h_498 (kc - mc_462) (ks - ms_462)))) ∧ (¬ r_498 = r_462 → K506 h_498 (kc - mc_462) (ks - ms_462)))))) ∧ (((xs (x4 : Int32).toNatClampNeg) &&& 15) = 7 → vp_in (x4 + 1) L ∧ vp_in (x4 + 2) L ∧ vp_in (x4 + 3) L ∧ vp_in (x4 + 4) L ∧ vp_in (x4 + 5) L ∧ ∃ mc_560 ms_560 : Nat, mc_560 ≤ kc ∧ ms_560 ≤ ks ∧ wp_L_piece h mc_560 ms_560 x1 (xs ((x4 + 1) : Int32).toNatClampNeg) (xs ((x4 + 2) : Int32).toNatClampNeg) (xs ((x4 + 3) : Int32).toNatClampNeg) (xs ((x4 + 4) : Int32).toNatClampNeg) (xs ((x4 + 5) : Int32).toNatClampNeg) x3 (fun (r_560 : Int32) (h_560 : xH) => vp_in (x4 + 1) L ∧ vp_in (x4 + 2) L ∧ vp_in (x4 + 3) L ∧ vp_in (x4 + 4) L ∧ vp_in (x4 + 5) L ∧ ∃ fs_596 : List Value, h_560 x2 = some (.inr (7, fs_596)) ∧ wp_A7_piece h_560  x2 (xs ((x4 + 1) : Int32).toNatClampNeg) (xs ((x4 + 2) : Int32).toNatClampNeg) (xs ((x4 + 3) : Int32).toNatClampNeg) (xs ((x4 + 4) : Int32).toNatClampNeg) (xs ((x4 + 5) : Int32).toNatClampNeg) (fun (r_596 : Int32) (h_596 : xH) => ∃ fs_602 : List Value, h_596 x2 = some (.inr (7, fs_602)) ∧ wp_A7_thrown h_596  x2 (fun (r_602 : Int32) (h_602 : xH) => (r_602 = r_560 → (¬ r_560 = 0 → wj_L_law_629 L xs post (wl_L_law_23 L xs post K131 K215 K239 K266 K283 K334 K351 K414 K431 K506 K523 K610 K627 K702 K718 K805 K822 K850 K858 n) K131 K215 K239 K266 K283 K334 K351 K414 K431 K506 K523 K610 K627 K702 K718 K805 K822 K850 K858 h_602 (kc - mc_560) (ks - ms_560) x1 x2 x3 x4) ∧ (r_560 = 0 → ∃ (n_619 : Nat) (f_619 : Nat → Int64), h_602 x3 = some (.inl (1, n_619, .inr (.inl f_619))) ∧ vp_in 0 n_619 ∧ ((f_619 (0 : Int32).toNatClampNeg) = ((r_596 : Int32).toInt64) → wj_L_law_629 L xs post (wl_L_law_23 L xs post K131 K215 K239 K266 K283 K334 K351 K414 K431 K506 K523 K610 K627 K702 K718 K805 K822 K850 K858 n) K131 K215 K239 K266 K283 K334 K351 K414 K431 K506 K523 K610 K627 K702 K718 K805 K822 K850 K858 h_602 (kc - mc_560) (ks - ms_560) x1 x2 x3 x4) ∧ (¬ (f_619 (0 : Int32).toNatClampNeg) = ((r_596 : Int32).toInt64) → K627 h_602 (kc - mc_560) (ks - ms_560)))) ∧ (¬ r_602 = r_560 → K610 h_602 (kc - mc_560) (ks - ms_560)))))) ∧ (((xs (x4 : Int32).toNatClampNeg) &&& 15) = 8 → vp_in (x4 + 1) L ∧ vp_in (x4 + 2) L ∧ vp_in (x4 + 3) L ∧ vp_in (x4 + 4) L ∧ ∃ mc_658 ms_658 : Nat, mc_658 ≤ kc ∧ ms_658 ≤ ks ∧ wp_L_scaled h mc_658 ms_658 x1 (xs ((x4 + 1) : Int32).toNatClampNeg) (xs ((x4 + 2) : Int32).toNatClampNeg) (xs ((x4 + 3) : Int32).toNatClampNeg) (xs ((x4 + 4) : Int32).toNatClampNeg) x3 (fun (r_658 : Int32) (h_658 : xH) => vp_in (x4 + 1) L ∧ vp_in (x4 + 2) L ∧ vp_in (x4 + 3) L ∧ vp_in (x4 + 4) L ∧ ∃ fs_688 : List Value, h_658 x2 = some (.inr (7, fs_688)) ∧ wp_A7_scaled h_658  x2 (xs ((x4 + 1) : Int32).toNatClampNeg) (xs ((x4 + 2) : Int32).toNatClampNeg) (xs ((x4 + 3) : Int32).toNatClampNeg) (xs ((x4 + 4) : Int32).toNatClampNeg) (fun (r_688 : Int64) (h_688 : xH) => ∃ fs_694 : List Value, h_688 x2 = some (.inr (7, fs_694)) ∧ wp_A7_thrown h_688  x2 (fun (r_694 : Int32) (h_694 : xH) => (r_694 = r_658 → (¬ r_658 = 0 → wj_L_law_720 L xs post (wl_L_law_23 L xs post K131 K215 K239 K266 K283 K334 K351 K414 K431 K506 K523 K610 K627 K702 K718 K805 K822 K850 K858 n) K131 K215 K239 K266 K283 K334 K351 K414 K431 K506 K523 K610 K627 K702 K718 K805 K822 K850 K858 h_694 (kc - mc_658) (ks - ms_658) x1 x2 x3 x4) ∧ (r_658 = 0 → ∃ (n_711 : Nat) (f_711 : Nat → Int64), h_694 x3 = some (.inl (1, n_711, .inr (.inl f_711))) ∧ vp_in 0 n_711 ∧ ((f_711 (0 : Int32).toNatClampNeg) = r_688 → wj_L_law_720 L xs post (wl_L_law_23 L xs post K131 K215 K239 K266 K283 K334 K351 K414 K431 K506 K523 K610 K627 K702 K718 K805 K822 K850 K858 n) K131 K215 K239 K266 K283 K334 K351 K414 K431 K506 K523 K610 K627 K702 K718 K805 K822 K850 K858 h_694 (kc - mc_658) (ks - ms_658) x1 x2 x3 x4) ∧ (¬ (f_711 (0 : Int32).toNatClampNeg) = r_688 → K718 h_694 (kc - mc_658) (ks - ms_658)))) ∧ (¬ r_694 = r_658 → K702 h_694 (kc - mc_658) (ks - ms_658)))))) ∧ (((xs (x4 : Int32).toNatClampNeg) &&& 15) = 9 → vp_in (x4 + 1) L ∧ vp_in (x4 + 2) L ∧ vp_in (x4 + 3) L ∧ vp_in (x4 + 4) L ∧ vp_in (x4 + 5) L ∧ ∃ mc_755 ms_755 : Nat, mc_755 ≤ kc ∧ ms_755 ≤ ks ∧ wp_L_compare h mc_755 ms_755 x1 (xs ((x4 + 1) : Int32).toNatClampNeg) (xs ((x4 + 2) : Int32).toNatClampNeg) (xs ((x4 + 3) : Int32).toNatClampNeg) (xs ((x4 + 4) : Int32).toNatClampNeg) (xs ((x4 + 5) : Int32).toNatClampNeg) x3 (fun (r_755 : Int32) (h_755 : xH) => vp_in (x4 + 1) L ∧ vp_in (x4 + 2) L ∧ vp_in (x4 + 3) L ∧ vp_in (x4 + 4) L ∧ vp_in (x4 + 5) L ∧ ∃ fs_791 : List Value, h_755 x2 = some (.inr (7, fs_791)) ∧ wp_A7_compare h_755  x2 (xs ((x4 + 1) : Int32).toNatClampNeg) (xs ((x4 + 2) : Int32).toNatClampNeg) (xs ((x4 + 3) : Int32).toNatClampNeg) (xs ((x4 + 4) : Int32).toNatClampNeg) (xs ((x4 + 5) : Int32).toNatClampNeg) (fun (r_791 : Int32) (h_791 : xH) => ∃ fs_797 : List Value, h_791 x2 = some (.inr (7, fs_797)) ∧ wp_A7_thrown h_791  x2 (fun (r_797 : Int32) (h_797 : xH) => (r_797 = r_755 → (¬ r_755 = 0 → wj_L_law_824 L xs post (wl_L_law_23 L xs post K131 K215 K239 K266 K283 K334 K351 K414 K431 K506 K523 K610 K627 K702 K718 K805 K822 K850 K858 n) K131 K215 K239 K266 K283 K334 K351 K414 K431 K506 K523 K610 K627 K702 K718 K805 K822 K850 K858 h_797 (kc - mc_755) (ks - ms_755) x1 x2 x3 x4) ∧ (r_755 = 0 → ∃ (n_814 : Nat) (f_814 : Nat → Int64), h_797 x3 = some (.inl (1, n_814, .inr (.inl f_814))) ∧ vp_in 0 n_814 ∧ ((f_814 (0 : Int32).toNatClampNeg) = ((r_791 : Int32).toInt64) → wj_L_law_824 L xs post (wl_L_law_23 L xs post K131 K215 K239 K266 K283 K334 K351 K414 K431 K506 K523 K610 K627 K702 K718 K805 K822 K850 K858 n) K131 K215 K239 K266 K283 K334 K351 K414 K431 K506 K523 K610 K627 K702 K718 K805 K822 K850 K858 h_797 (kc - mc_755) (ks - ms_755) x1 x2 x3 x4) ∧ (¬ (f_814 (0 : Int32).toNatClampNeg) = ((r_791 : Int32).toInt64) → K822 h_797 (kc - mc_755) (ks - ms_755)))) ∧ (¬ r_797 = r_755 → K805 h_797 (kc - mc_755) (ks - ms_755)))))) ∧ (((xs (x4 : Int32).toNatClampNeg) &&& 15) = 10 → vp_in (x4 + 1) L ∧ ∃ fs_834 : List Value, h x1 = some (.inr (6, fs_834)) ∧ wp_X6_about h  x1 (xs ((x4 + 1) : Int32).toNatClampNeg) (fun (r_834 : Int32) => vp_in (x4 + 1) L ∧ ∃ fs_844 : List Value, h x2 = some (.inr (7, fs_844)) ∧ wp_A7_about h  x2 (xs ((x4 + 1) : Int32).toNatClampNeg) (fun (r_844 : Int32) (h_844 : xH) => (r_834 = r_844 → wj_L_law_852 L xs post (wl_L_law_23 L xs post K131 K215 K239 K266 K283 K334 K351 K414 K431 K506 K523 K610 K627 K702 K718 K805 K822 K850 K858 n) K131 K215 K239 K266 K283 K334 K351 K414 K431 K506 K523 K610 K627 K702 K718 K805 K822 K850 K858 h_844 kc ks x1 x2 x3 x4) ∧ (¬ r_834 = r_844 → K850 h_844 kc ks)))))
set_option maxRecDepth 100000 in
def wp_L_law (L : Nat) (xs : Nat → Int32) (post : Unit) : Prop := 1 ≤ 950342 ∧ 10 ≤ 6245077 ∧ ∀ q_0 : Nat, x_fresh hN q_0 → ∀ h_0 : xH, h_0 = x_up hN q_0 (.inr (6, [.null, .int 0, .int 0, .int 0, .int 0, .null, .null, .null, .null, .null])) → ∃ mc_4 ms_4 : Nat, mc_4 ≤ (950342 - 1) ∧ ms_4 ≤ (6245077 - 10) ∧ wp_X6_init h_0 mc_4 ms_4 q_0 (fun (h_4 : xH) => 1 ≤ ((950342 - 1) - mc_4) ∧ 12 ≤ ((6245077 - 10) - ms_4) ∧ ∀ q_8 : Nat, x_fresh h_4 q_8 → ∀ h_8 : xH, h_8 = x_up h_4 q_8 (.inr (7, [.int 0, .int 0, .null, .null, .int 0, .int 0, .int 0, .int 0, .null, .null, .null, .null])) → ∃ mc_12 ms_12 : Nat, mc_12 ≤ (((950342 - 1) - mc_4) - 1) ∧ ms_12 ≤ (((6245077 - 10) - ms_4) - 12) ∧ wp_X7_init h_8 mc_12 ms_12 q_8 (fun (h_12 : xH) => ¬ (1 : Int32) < 0 ∧ ∀ z_17 : Nat, (1 : Int32).toNatClampNeg = z_17 → z_17 ≤ 60000000 ∧ 1 ≤ ((((950342 - 1) - mc_4) - 1) - mc_12) ∧ z_17 ≤ ((((6245077 - 10) - ms_4) - 12) - ms_12) ∧ ∀ q_17 : Nat, x_fresh h_12 q_17 → ∀ h_17 : xH, h_17 = x_up h_12 q_17 (.inl (1, z_17, .inr (.inl (fun _ => 0)))) → ∃ n23 : Nat, wl_L_law_23 L xs post (fun (h : xH) (kc : Nat) (ks : Nat) => False) (fun (h : xH) (kc : Nat) (ks : Nat) => False) (fun (h : xH) (kc : Nat) (ks : Nat) => False) (fun (h : xH) (kc : Nat) (ks : Nat) => False) (fun (h : xH) (kc : Nat) (ks : Nat) => False) (fun (h : xH) (kc : Nat) (ks : Nat) => False) (fun (h : xH) (kc : Nat) (ks : Nat) => False) (fun (h : xH) (kc : Nat) (ks : Nat) => False) (fun (h : xH) (kc : Nat) (ks : Nat) => False) (fun (h : xH) (kc : Nat) (ks : Nat) => False) (fun (h : xH) (kc : Nat) (ks : Nat) => False) (fun (h : xH) (kc : Nat) (ks : Nat) => False) (fun (h : xH) (kc : Nat) (ks : Nat) => False) (fun (h : xH) (kc : Nat) (ks : Nat) => False) (fun (h : xH) (kc : Nat) (ks : Nat) => False) (fun (h : xH) (kc : Nat) (ks : Nat) => False) (fun (h : xH) (kc : Nat) (ks : Nat) => False) (fun (h : xH) (kc : Nat) (ks : Nat) => False) (fun (h : xH) (kc : Nat) (ks : Nat) => True) n23 h_17 (((((950342 - 1) - mc_4) - 1) - mc_12) - 1) (((((6245077 - 10) - ms_4) - 12) - ms_12) - z_17) q_0 q_8 q_17 0))
set_option maxHeartbeats 4000000 in
set_option maxRecDepth 100000 in
theorem mj_L_law_852 (C : CL p l s m meth c G b L xs)  (post : Unit) (Rc : xH → Nat → Nat → Nat → Nat → Nat → Int32 → Prop) (K131 : xH → Nat → Nat → Prop) (K215 : xH → Nat → Nat → Prop) (K239 : xH → Nat → Nat → Prop) (K266 : xH → Nat → Nat → Prop) (K283 : xH → Nat → Nat → Prop) (K334 : xH → Nat → Nat → Prop) (K351 : xH → Nat → Nat → Prop) (K414 : xH → Nat → Nat → Prop) (K431 : xH → Nat → Nat → Prop) (K506 : xH → Nat → Nat → Prop) (K523 : xH → Nat → Nat → Prop) (K610 : xH → Nat → Nat → Prop) (K627 : xH → Nat → Nat → Prop) (K702 : xH → Nat → Nat → Prop) (K718 : xH → Nat → Nat → Prop) (K805 : xH → Nat → Nat → Prop) (K822 : xH → Nat → Nat → Prop) (K850 : xH → Nat → Nat → Prop) (K858 : xH → Nat → Nat → Prop)
    (hRc : (∀ (h : xH) (kc : Nat) (ks : Nat) (x1 : Nat) (x2 : Nat) (x3 : Nat) (x4 : Int32) (H : Heap) (locs : List Loc) (ls : Array Slot) (nc ns : Nat), Rc h kc ks x1 x2 x3 x4 → x_I G (x_A hN s.heap.size) s.heap h H locs → nc + kc ≤ 950342 → ns + ks ≤ 6245077 → lv_has ls 8 [(0, .ref b), (1, .ref x1), (2, .ref x2), (3, .ref x3), (4, .int x4)] → W p l e (room_1) s m #[Value.ref b] below meth c H locs nc ns (lw_Z below #[Value.ref b] s) (F0 m 23 ls [])))
    (hK131 : (∀ (h : xH) (kc : Nat) (ks : Nat) (H : Heap) (locs : List Loc) (ls : Array Slot) (nc ns : Nat), K131 h kc ks → x_I G (x_A hN s.heap.size) s.heap h H locs → nc + kc ≤ 950342 → ns + ks ≤ 6245077 → lv_has ls 8 [(0, .ref b)] → W p l e (room_1) s m #[Value.ref b] below meth c H locs nc ns (lw_Z below #[Value.ref b] s) (F0 m 131 ls [])))
    (hK215 : (∀ (h : xH) (kc : Nat) (ks : Nat) (H : Heap) (locs : List Loc) (ls : Array Slot) (nc ns : Nat), K215 h kc ks → x_I G (x_A hN s.heap.size) s.heap h H locs → nc + kc ≤ 950342 → ns + ks ≤ 6245077 → lv_has ls 8 [(0, .ref b)] → W p l e (room_1) s m #[Value.ref b] below meth c H locs nc ns (lw_Z below #[Value.ref b] s) (F0 m 215 ls [])))
    (hK239 : (∀ (h : xH) (kc : Nat) (ks : Nat) (H : Heap) (locs : List Loc) (ls : Array Slot) (nc ns : Nat), K239 h kc ks → x_I G (x_A hN s.heap.size) s.heap h H locs → nc + kc ≤ 950342 → ns + ks ≤ 6245077 → lv_has ls 8 [(0, .ref b)] → W p l e (room_1) s m #[Value.ref b] below meth c H locs nc ns (lw_Z below #[Value.ref b] s) (F0 m 239 ls [])))
    (hK266 : (∀ (h : xH) (kc : Nat) (ks : Nat) (H : Heap) (locs : List Loc) (ls : Array Slot) (nc ns : Nat), K266 h kc ks → x_I G (x_A hN s.heap.size) s.heap h H locs → nc + kc ≤ 950342 → ns + ks ≤ 6245077 → lv_has ls 8 [(0, .ref b)] → W p l e (room_1) s m #[Value.ref b] below meth c H locs nc ns (lw_Z below #[Value.ref b] s) (F0 m 266 ls [])))
    (hK283 : (∀ (h : xH) (kc : Nat) (ks : Nat) (H : Heap) (locs : List Loc) (ls : Array Slot) (nc ns : Nat), K283 h kc ks → x_I G (x_A hN s.heap.size) s.heap h H locs → nc + kc ≤ 950342 → ns + ks ≤ 6245077 → lv_has ls 8 [(0, .ref b)] → W p l e (room_1) s m #[Value.ref b] below meth c H locs nc ns (lw_Z below #[Value.ref b] s) (F0 m 283 ls [])))
    (hK334 : (∀ (h : xH) (kc : Nat) (ks : Nat) (H : Heap) (locs : List Loc) (ls : Array Slot) (nc ns : Nat), K334 h kc ks → x_I G (x_A hN s.heap.size) s.heap h H locs → nc + kc ≤ 950342 → ns + ks ≤ 6245077 → lv_has ls 8 [(0, .ref b)] → W p l e (room_1) s m #[Value.ref b] below meth c H locs nc ns (lw_Z below #[Value.ref b] s) (F0 m 334 ls [])))
    (hK351 : (∀ (h : xH) (kc : Nat) (ks : Nat) (H : Heap) (locs : List Loc) (ls : Array Slot) (nc ns : Nat), K351 h kc ks → x_I G (x_A hN s.heap.size) s.heap h H locs → nc + kc ≤ 950342 → ns + ks ≤ 6245077 → lv_has ls 8 [(0, .ref b)] → W p l e (room_1) s m #[Value.ref b] below meth c H locs nc ns (lw_Z below #[Value.ref b] s) (F0 m 351 ls [])))
    (hK414 : (∀ (h : xH) (kc : Nat) (ks : Nat) (H : Heap) (locs : List Loc) (ls : Array Slot) (nc ns : Nat), K414 h kc ks → x_I G (x_A hN s.heap.size) s.heap h H locs → nc + kc ≤ 950342 → ns + ks ≤ 6245077 → lv_has ls 8 [(0, .ref b)] → W p l e (room_1) s m #[Value.ref b] below meth c H locs nc ns (lw_Z below #[Value.ref b] s) (F0 m 414 ls [])))
    (hK431 : (∀ (h : xH) (kc : Nat) (ks : Nat) (H : Heap) (locs : List Loc) (ls : Array Slot) (nc ns : Nat), K431 h kc ks → x_I G (x_A hN s.heap.size) s.heap h H locs → nc + kc ≤ 950342 → ns + ks ≤ 6245077 → lv_has ls 8 [(0, .ref b)] → W p l e (room_1) s m #[Value.ref b] below meth c H locs nc ns (lw_Z below #[Value.ref b] s) (F0 m 431 ls [])))
    (hK506 : (∀ (h : xH) (kc : Nat) (ks : Nat) (H : Heap) (locs : List Loc) (ls : Array Slot) (nc ns : Nat), K506 h kc ks → x_I G (x_A hN s.heap.size) s.heap h H locs → nc + kc ≤ 950342 → ns + ks ≤ 6245077 → lv_has ls 8 [(0, .ref b)] → W p l e (room_1) s m #[Value.ref b] below meth c H locs nc ns (lw_Z below #[Value.ref b] s) (F0 m 506 ls [])))
    (hK523 : (∀ (h : xH) (kc : Nat) (ks : Nat) (H : Heap) (locs : List Loc) (ls : Array Slot) (nc ns : Nat), K523 h kc ks → x_I G (x_A hN s.heap.size) s.heap h H locs → nc + kc ≤ 950342 → ns + ks ≤ 6245077 → lv_has ls 8 [(0, .ref b)] → W p l e (room_1) s m #[Value.ref b] below meth c H locs nc ns (lw_Z below #[Value.ref b] s) (F0 m 523 ls [])))
    (hK610 : (∀ (h : xH) (kc : Nat) (ks : Nat) (H : Heap) (locs : List Loc) (ls : Array Slot) (nc ns : Nat), K610 h kc ks → x_I G (x_A hN s.heap.size) s.heap h H locs → nc + kc ≤ 950342 → ns + ks ≤ 6245077 → lv_has ls 8 [(0, .ref b)] → W p l e (room_1) s m #[Value.ref b] below meth c H locs nc ns (lw_Z below #[Value.ref b] s) (F0 m 610 ls [])))
    (hK627 : (∀ (h : xH) (kc : Nat) (ks : Nat) (H : Heap) (locs : List Loc) (ls : Array Slot) (nc ns : Nat), K627 h kc ks → x_I G (x_A hN s.heap.size) s.heap h H locs → nc + kc ≤ 950342 → ns + ks ≤ 6245077 → lv_has ls 8 [(0, .ref b)] → W p l e (room_1) s m #[Value.ref b] below meth c H locs nc ns (lw_Z below #[Value.ref b] s) (F0 m 627 ls [])))
    (hK702 : (∀ (h : xH) (kc : Nat) (ks : Nat) (H : Heap) (locs : List Loc) (ls : Array Slot) (nc ns : Nat), K702 h kc ks → x_I G (x_A hN s.heap.size) s.heap h H locs → nc + kc ≤ 950342 → ns + ks ≤ 6245077 → lv_has ls 8 [(0, .ref b)] → W p l e (room_1) s m #[Value.ref b] below meth c H locs nc ns (lw_Z below #[Value.ref b] s) (F0 m 702 ls [])))
    (hK718 : (∀ (h : xH) (kc : Nat) (ks : Nat) (H : Heap) (locs : List Loc) (ls : Array Slot) (nc ns : Nat), K718 h kc ks → x_I G (x_A hN s.heap.size) s.heap h H locs → nc + kc ≤ 950342 → ns + ks ≤ 6245077 → lv_has ls 8 [(0, .ref b)] → W p l e (room_1) s m #[Value.ref b] below meth c H locs nc ns (lw_Z below #[Value.ref b] s) (F0 m 718 ls [])))
    (hK805 : (∀ (h : xH) (kc : Nat) (ks : Nat) (H : Heap) (locs : List Loc) (ls : Array Slot) (nc ns : Nat), K805 h kc ks → x_I G (x_A hN s.heap.size) s.heap h H locs → nc + kc ≤ 950342 → ns + ks ≤ 6245077 → lv_has ls 8 [(0, .ref b)] → W p l e (room_1) s m #[Value.ref b] below meth c H locs nc ns (lw_Z below #[Value.ref b] s) (F0 m 805 ls [])))
    (hK822 : (∀ (h : xH) (kc : Nat) (ks : Nat) (H : Heap) (locs : List Loc) (ls : Array Slot) (nc ns : Nat), K822 h kc ks → x_I G (x_A hN s.heap.size) s.heap h H locs → nc + kc ≤ 950342 → ns + ks ≤ 6245077 → lv_has ls 8 [(0, .ref b)] → W p l e (room_1) s m #[Value.ref b] below meth c H locs nc ns (lw_Z below #[Value.ref b] s) (F0 m 822 ls [])))
    (hK850 : (∀ (h : xH) (kc : Nat) (ks : Nat) (H : Heap) (locs : List Loc) (ls : Array Slot) (nc ns : Nat), K850 h kc ks → x_I G (x_A hN s.heap.size) s.heap h H locs → nc + kc ≤ 950342 → ns + ks ≤ 6245077 → lv_has ls 8 [(0, .ref b)] → W p l e (room_1) s m #[Value.ref b] below meth c H locs nc ns (lw_Z below #[Value.ref b] s) (F0 m 850 ls [])))
    (hK858 : (∀ (h : xH) (kc : Nat) (ks : Nat) (H : Heap) (locs : List Loc) (ls : Array Slot) (nc ns : Nat), K858 h kc ks → x_I G (x_A hN s.heap.size) s.heap h H locs → nc + kc ≤ 950342 → ns + ks ≤ 6245077 → lv_has ls 8 [(0, .ref b)] → W p l e (room_1) s m #[Value.ref b] below meth c H locs nc ns (lw_Z below #[Value.ref b] s) (F0 m 858 ls [])))
    (h : xH) (kc : Nat) (ks : Nat) (x1 : Nat) (x2 : Nat) (x3 : Nat) (x4 : Int32) (H : Heap) (locs : List Loc) (ls : Array Slot) (nc ns : Nat) (hw : wj_L_law_852 L xs post Rc K131 K215 K239 K266 K283 K334 K351 K414 K431 K506 K523 K610 K627 K702 K718 K805 K822 K850 K858 h kc ks x1 x2 x3 x4) (hI : x_I G (x_A hN s.heap.size) s.heap h H locs) (hkc : nc + kc ≤ 950342) (hks : ns + ks ≤ 6245077) (hl : lv_has ls 8 [(0, .ref b), (1, .ref x1), (2, .ref x2), (3, .ref x3), (4, .int x4)]) : W p l e (room_1) s m #[Value.ref b] below meth c H locs nc ns (lw_Z below #[Value.ref b] s) (F0 m 852 ls []) := by
  obtain ⟨hx, hb, hr, hml, hown, hg, hlocks, hK, hZ, hC, hst, hX, hbl, hbA⟩ := id C
  unfold wj_L_law_852 at hw
  obtain ⟨x4_852, ex4_852⟩ : ∃ y : Int32, y = x4 + 6 := ⟨_, rfl⟩
  have hw := hw x4_852 ex4_852
  refine lv_iinc (v := x4_852) (lv' := [(4, .int x4_852), (0, .ref b), (1, .ref x1), (2, .ref x2), (3, .ref x3)]) hx hb dL_law_852 hl (k := 4) rfl (by rw [ex4_852]; rfl) (by decide) rfl (fun ls hl => ?_)
  refine lv_goto (tgt := 23) hx hb dL_law_855 (by decide) ?_
  exact hRc _ _ _ _ _ _ _ _ _ _ _ _ hw hI (by omega) (by omega) (lv_sub hl [1, 2, 3, 4, 0] rfl)
set_option maxHeartbeats 4000000 in
set_option maxRecDepth 100000 in
theorem mj_L_law_285 (C : CL p l s m meth c G b L xs)  (post : Unit) (Rc : xH → Nat → Nat → Nat → Nat → Nat → Int32 → Prop) (K131 : xH → Nat → Nat → Prop) (K215 : xH → Nat → Nat → Prop) (K239 : xH → Nat → Nat → Prop) (K266 : xH → Nat → Nat → Prop) (K283 : xH → Nat → Nat → Prop) (K334 : xH → Nat → Nat → Prop) (K351 : xH → Nat → Nat → Prop) (K414 : xH → Nat → Nat → Prop) (K431 : xH → Nat → Nat → Prop) (K506 : xH → Nat → Nat → Prop) (K523 : xH → Nat → Nat → Prop) (K610 : xH → Nat → Nat → Prop) (K627 : xH → Nat → Nat → Prop) (K702 : xH → Nat → Nat → Prop) (K718 : xH → Nat → Nat → Prop) (K805 : xH → Nat → Nat → Prop) (K822 : xH → Nat → Nat → Prop) (K850 : xH → Nat → Nat → Prop) (K858 : xH → Nat → Nat → Prop)
    (hRc : (∀ (h : xH) (kc : Nat) (ks : Nat) (x1 : Nat) (x2 : Nat) (x3 : Nat) (x4 : Int32) (H : Heap) (locs : List Loc) (ls : Array Slot) (nc ns : Nat), Rc h kc ks x1 x2 x3 x4 → x_I G (x_A hN s.heap.size) s.heap h H locs → nc + kc ≤ 950342 → ns + ks ≤ 6245077 → lv_has ls 8 [(0, .ref b), (1, .ref x1), (2, .ref x2), (3, .ref x3), (4, .int x4)] → W p l e (room_1) s m #[Value.ref b] below meth c H locs nc ns (lw_Z below #[Value.ref b] s) (F0 m 23 ls [])))
    (hK131 : (∀ (h : xH) (kc : Nat) (ks : Nat) (H : Heap) (locs : List Loc) (ls : Array Slot) (nc ns : Nat), K131 h kc ks → x_I G (x_A hN s.heap.size) s.heap h H locs → nc + kc ≤ 950342 → ns + ks ≤ 6245077 → lv_has ls 8 [(0, .ref b)] → W p l e (room_1) s m #[Value.ref b] below meth c H locs nc ns (lw_Z below #[Value.ref b] s) (F0 m 131 ls [])))
    (hK215 : (∀ (h : xH) (kc : Nat) (ks : Nat) (H : Heap) (locs : List Loc) (ls : Array Slot) (nc ns : Nat), K215 h kc ks → x_I G (x_A hN s.heap.size) s.heap h H locs → nc + kc ≤ 950342 → ns + ks ≤ 6245077 → lv_has ls 8 [(0, .ref b)] → W p l e (room_1) s m #[Value.ref b] below meth c H locs nc ns (lw_Z below #[Value.ref b] s) (F0 m 215 ls [])))
    (hK239 : (∀ (h : xH) (kc : Nat) (ks : Nat) (H : Heap) (locs : List Loc) (ls : Array Slot) (nc ns : Nat), K239 h kc ks → x_I G (x_A hN s.heap.size) s.heap h H locs → nc + kc ≤ 950342 → ns + ks ≤ 6245077 → lv_has ls 8 [(0, .ref b)] → W p l e (room_1) s m #[Value.ref b] below meth c H locs nc ns (lw_Z below #[Value.ref b] s) (F0 m 239 ls [])))
    (hK266 : (∀ (h : xH) (kc : Nat) (ks : Nat) (H : Heap) (locs : List Loc) (ls : Array Slot) (nc ns : Nat), K266 h kc ks → x_I G (x_A hN s.heap.size) s.heap h H locs → nc + kc ≤ 950342 → ns + ks ≤ 6245077 → lv_has ls 8 [(0, .ref b)] → W p l e (room_1) s m #[Value.ref b] below meth c H locs nc ns (lw_Z below #[Value.ref b] s) (F0 m 266 ls [])))
    (hK283 : (∀ (h : xH) (kc : Nat) (ks : Nat) (H : Heap) (locs : List Loc) (ls : Array Slot) (nc ns : Nat), K283 h kc ks → x_I G (x_A hN s.heap.size) s.heap h H locs → nc + kc ≤ 950342 → ns + ks ≤ 6245077 → lv_has ls 8 [(0, .ref b)] → W p l e (room_1) s m #[Value.ref b] below meth c H locs nc ns (lw_Z below #[Value.ref b] s) (F0 m 283 ls [])))
    (hK334 : (∀ (h : xH) (kc : Nat) (ks : Nat) (H : Heap) (locs : List Loc) (ls : Array Slot) (nc ns : Nat), K334 h kc ks → x_I G (x_A hN s.heap.size) s.heap h H locs → nc + kc ≤ 950342 → ns + ks ≤ 6245077 → lv_has ls 8 [(0, .ref b)] → W p l e (room_1) s m #[Value.ref b] below meth c H locs nc ns (lw_Z below #[Value.ref b] s) (F0 m 334 ls [])))
    (hK351 : (∀ (h : xH) (kc : Nat) (ks : Nat) (H : Heap) (locs : List Loc) (ls : Array Slot) (nc ns : Nat), K351 h kc ks → x_I G (x_A hN s.heap.size) s.heap h H locs → nc + kc ≤ 950342 → ns + ks ≤ 6245077 → lv_has ls 8 [(0, .ref b)] → W p l e (room_1) s m #[Value.ref b] below meth c H locs nc ns (lw_Z below #[Value.ref b] s) (F0 m 351 ls [])))
    (hK414 : (∀ (h : xH) (kc : Nat) (ks : Nat) (H : Heap) (locs : List Loc) (ls : Array Slot) (nc ns : Nat), K414 h kc ks → x_I G (x_A hN s.heap.size) s.heap h H locs → nc + kc ≤ 950342 → ns + ks ≤ 6245077 → lv_has ls 8 [(0, .ref b)] → W p l e (room_1) s m #[Value.ref b] below meth c H locs nc ns (lw_Z below #[Value.ref b] s) (F0 m 414 ls [])))
    (hK431 : (∀ (h : xH) (kc : Nat) (ks : Nat) (H : Heap) (locs : List Loc) (ls : Array Slot) (nc ns : Nat), K431 h kc ks → x_I G (x_A hN s.heap.size) s.heap h H locs → nc + kc ≤ 950342 → ns + ks ≤ 6245077 → lv_has ls 8 [(0, .ref b)] → W p l e (room_1) s m #[Value.ref b] below meth c H locs nc ns (lw_Z below #[Value.ref b] s) (F0 m 431 ls [])))
    (hK506 : (∀ (h : xH) (kc : Nat) (ks : Nat) (H : Heap) (locs : List Loc) (ls : Array Slot) (nc ns : Nat), K506 h kc ks → x_I G (x_A hN s.heap.size) s.heap h H locs → nc + kc ≤ 950342 → ns + ks ≤ 6245077 → lv_has ls 8 [(0, .ref b)] → W p l e (room_1) s m #[Value.ref b] below meth c H locs nc ns (lw_Z below #[Value.ref b] s) (F0 m 506 ls [])))
    (hK523 : (∀ (h : xH) (kc : Nat) (ks : Nat) (H : Heap) (locs : List Loc) (ls : Array Slot) (nc ns : Nat), K523 h kc ks → x_I G (x_A hN s.heap.size) s.heap h H locs → nc + kc ≤ 950342 → ns + ks ≤ 6245077 → lv_has ls 8 [(0, .ref b)] → W p l e (room_1) s m #[Value.ref b] below meth c H locs nc ns (lw_Z below #[Value.ref b] s) (F0 m 523 ls [])))
    (hK610 : (∀ (h : xH) (kc : Nat) (ks : Nat) (H : Heap) (locs : List Loc) (ls : Array Slot) (nc ns : Nat), K610 h kc ks → x_I G (x_A hN s.heap.size) s.heap h H locs → nc + kc ≤ 950342 → ns + ks ≤ 6245077 → lv_has ls 8 [(0, .ref b)] → W p l e (room_1) s m #[Value.ref b] below meth c H locs nc ns (lw_Z below #[Value.ref b] s) (F0 m 610 ls [])))
    (hK627 : (∀ (h : xH) (kc : Nat) (ks : Nat) (H : Heap) (locs : List Loc) (ls : Array Slot) (nc ns : Nat), K627 h kc ks → x_I G (x_A hN s.heap.size) s.heap h H locs → nc + kc ≤ 950342 → ns + ks ≤ 6245077 → lv_has ls 8 [(0, .ref b)] → W p l e (room_1) s m #[Value.ref b] below meth c H locs nc ns (lw_Z below #[Value.ref b] s) (F0 m 627 ls [])))
    (hK702 : (∀ (h : xH) (kc : Nat) (ks : Nat) (H : Heap) (locs : List Loc) (ls : Array Slot) (nc ns : Nat), K702 h kc ks → x_I G (x_A hN s.heap.size) s.heap h H locs → nc + kc ≤ 950342 → ns + ks ≤ 6245077 → lv_has ls 8 [(0, .ref b)] → W p l e (room_1) s m #[Value.ref b] below meth c H locs nc ns (lw_Z below #[Value.ref b] s) (F0 m 702 ls [])))
    (hK718 : (∀ (h : xH) (kc : Nat) (ks : Nat) (H : Heap) (locs : List Loc) (ls : Array Slot) (nc ns : Nat), K718 h kc ks → x_I G (x_A hN s.heap.size) s.heap h H locs → nc + kc ≤ 950342 → ns + ks ≤ 6245077 → lv_has ls 8 [(0, .ref b)] → W p l e (room_1) s m #[Value.ref b] below meth c H locs nc ns (lw_Z below #[Value.ref b] s) (F0 m 718 ls [])))
    (hK805 : (∀ (h : xH) (kc : Nat) (ks : Nat) (H : Heap) (locs : List Loc) (ls : Array Slot) (nc ns : Nat), K805 h kc ks → x_I G (x_A hN s.heap.size) s.heap h H locs → nc + kc ≤ 950342 → ns + ks ≤ 6245077 → lv_has ls 8 [(0, .ref b)] → W p l e (room_1) s m #[Value.ref b] below meth c H locs nc ns (lw_Z below #[Value.ref b] s) (F0 m 805 ls [])))
    (hK822 : (∀ (h : xH) (kc : Nat) (ks : Nat) (H : Heap) (locs : List Loc) (ls : Array Slot) (nc ns : Nat), K822 h kc ks → x_I G (x_A hN s.heap.size) s.heap h H locs → nc + kc ≤ 950342 → ns + ks ≤ 6245077 → lv_has ls 8 [(0, .ref b)] → W p l e (room_1) s m #[Value.ref b] below meth c H locs nc ns (lw_Z below #[Value.ref b] s) (F0 m 822 ls [])))
    (hK850 : (∀ (h : xH) (kc : Nat) (ks : Nat) (H : Heap) (locs : List Loc) (ls : Array Slot) (nc ns : Nat), K850 h kc ks → x_I G (x_A hN s.heap.size) s.heap h H locs → nc + kc ≤ 950342 → ns + ks ≤ 6245077 → lv_has ls 8 [(0, .ref b)] → W p l e (room_1) s m #[Value.ref b] below meth c H locs nc ns (lw_Z below #[Value.ref b] s) (F0 m 850 ls [])))
    (hK858 : (∀ (h : xH) (kc : Nat) (ks : Nat) (H : Heap) (locs : List Loc) (ls : Array Slot) (nc ns : Nat), K858 h kc ks → x_I G (x_A hN s.heap.size) s.heap h H locs → nc + kc ≤ 950342 → ns + ks ≤ 6245077 → lv_has ls 8 [(0, .ref b)] → W p l e (room_1) s m #[Value.ref b] below meth c H locs nc ns (lw_Z below #[Value.ref b] s) (F0 m 858 ls [])))
    (h : xH) (kc : Nat) (ks : Nat) (x1 : Nat) (x2 : Nat) (x3 : Nat) (x4 : Int32) (H : Heap) (locs : List Loc) (ls : Array Slot) (nc ns : Nat) (hw : wj_L_law_285 L xs post Rc K131 K215 K239 K266 K283 K334 K351 K414 K431 K506 K523 K610 K627 K702 K718 K805 K822 K850 K858 h kc ks x1 x2 x3 x4) (hI : x_I G (x_A hN s.heap.size) s.heap h H locs) (hkc : nc + kc ≤ 950342) (hks : ns + ks ≤ 6245077) (hl : lv_has ls 8 [(0, .ref b), (1, .ref x1), (2, .ref x2), (3, .ref x3), (4, .int x4)]) : W p l e (room_1) s m #[Value.ref b] below meth c H locs nc ns (lw_Z below #[Value.ref b] s) (F0 m 285 ls []) := by
  obtain ⟨hx, hb, hr, hml, hown, hg, hlocks, hK, hZ, hC, hst, hX, hbl, hbA⟩ := id C
  unfold wj_L_law_285 at hw
  refine lv_goto (tgt := 852) hx hb dL_law_285 (by decide) ?_
  exact mj_L_law_852 C  post _ _ _ _ _ _ _ _ _ _ _ _ _ _ _ _ _ _ _ _ (hRc) hK131 hK215 hK239 hK266 hK283 hK334 hK351 hK414 hK431 hK506 hK523 hK610 hK627 hK702 hK718 hK805 hK822 hK850 hK858 _ _ _ _ _ _ _ _ _ _ _ _ hw hI (by omega) (by omega) (lv_sub hl [0, 1, 2, 3, 4] rfl)
set_option maxHeartbeats 4000000 in
set_option maxRecDepth 100000 in
theorem mj_L_law_353 (C : CL p l s m meth c G b L xs)  (post : Unit) (Rc : xH → Nat → Nat → Nat → Nat → Nat → Int32 → Prop) (K131 : xH → Nat → Nat → Prop) (K215 : xH → Nat → Nat → Prop) (K239 : xH → Nat → Nat → Prop) (K266 : xH → Nat → Nat → Prop) (K283 : xH → Nat → Nat → Prop) (K334 : xH → Nat → Nat → Prop) (K351 : xH → Nat → Nat → Prop) (K414 : xH → Nat → Nat → Prop) (K431 : xH → Nat → Nat → Prop) (K506 : xH → Nat → Nat → Prop) (K523 : xH → Nat → Nat → Prop) (K610 : xH → Nat → Nat → Prop) (K627 : xH → Nat → Nat → Prop) (K702 : xH → Nat → Nat → Prop) (K718 : xH → Nat → Nat → Prop) (K805 : xH → Nat → Nat → Prop) (K822 : xH → Nat → Nat → Prop) (K850 : xH → Nat → Nat → Prop) (K858 : xH → Nat → Nat → Prop)
    (hRc : (∀ (h : xH) (kc : Nat) (ks : Nat) (x1 : Nat) (x2 : Nat) (x3 : Nat) (x4 : Int32) (H : Heap) (locs : List Loc) (ls : Array Slot) (nc ns : Nat), Rc h kc ks x1 x2 x3 x4 → x_I G (x_A hN s.heap.size) s.heap h H locs → nc + kc ≤ 950342 → ns + ks ≤ 6245077 → lv_has ls 8 [(0, .ref b), (1, .ref x1), (2, .ref x2), (3, .ref x3), (4, .int x4)] → W p l e (room_1) s m #[Value.ref b] below meth c H locs nc ns (lw_Z below #[Value.ref b] s) (F0 m 23 ls [])))
    (hK131 : (∀ (h : xH) (kc : Nat) (ks : Nat) (H : Heap) (locs : List Loc) (ls : Array Slot) (nc ns : Nat), K131 h kc ks → x_I G (x_A hN s.heap.size) s.heap h H locs → nc + kc ≤ 950342 → ns + ks ≤ 6245077 → lv_has ls 8 [(0, .ref b)] → W p l e (room_1) s m #[Value.ref b] below meth c H locs nc ns (lw_Z below #[Value.ref b] s) (F0 m 131 ls [])))
    (hK215 : (∀ (h : xH) (kc : Nat) (ks : Nat) (H : Heap) (locs : List Loc) (ls : Array Slot) (nc ns : Nat), K215 h kc ks → x_I G (x_A hN s.heap.size) s.heap h H locs → nc + kc ≤ 950342 → ns + ks ≤ 6245077 → lv_has ls 8 [(0, .ref b)] → W p l e (room_1) s m #[Value.ref b] below meth c H locs nc ns (lw_Z below #[Value.ref b] s) (F0 m 215 ls [])))
    (hK239 : (∀ (h : xH) (kc : Nat) (ks : Nat) (H : Heap) (locs : List Loc) (ls : Array Slot) (nc ns : Nat), K239 h kc ks → x_I G (x_A hN s.heap.size) s.heap h H locs → nc + kc ≤ 950342 → ns + ks ≤ 6245077 → lv_has ls 8 [(0, .ref b)] → W p l e (room_1) s m #[Value.ref b] below meth c H locs nc ns (lw_Z below #[Value.ref b] s) (F0 m 239 ls [])))
    (hK266 : (∀ (h : xH) (kc : Nat) (ks : Nat) (H : Heap) (locs : List Loc) (ls : Array Slot) (nc ns : Nat), K266 h kc ks → x_I G (x_A hN s.heap.size) s.heap h H locs → nc + kc ≤ 950342 → ns + ks ≤ 6245077 → lv_has ls 8 [(0, .ref b)] → W p l e (room_1) s m #[Value.ref b] below meth c H locs nc ns (lw_Z below #[Value.ref b] s) (F0 m 266 ls [])))
    (hK283 : (∀ (h : xH) (kc : Nat) (ks : Nat) (H : Heap) (locs : List Loc) (ls : Array Slot) (nc ns : Nat), K283 h kc ks → x_I G (x_A hN s.heap.size) s.heap h H locs → nc + kc ≤ 950342 → ns + ks ≤ 6245077 → lv_has ls 8 [(0, .ref b)] → W p l e (room_1) s m #[Value.ref b] below meth c H locs nc ns (lw_Z below #[Value.ref b] s) (F0 m 283 ls [])))
    (hK334 : (∀ (h : xH) (kc : Nat) (ks : Nat) (H : Heap) (locs : List Loc) (ls : Array Slot) (nc ns : Nat), K334 h kc ks → x_I G (x_A hN s.heap.size) s.heap h H locs → nc + kc ≤ 950342 → ns + ks ≤ 6245077 → lv_has ls 8 [(0, .ref b)] → W p l e (room_1) s m #[Value.ref b] below meth c H locs nc ns (lw_Z below #[Value.ref b] s) (F0 m 334 ls [])))
    (hK351 : (∀ (h : xH) (kc : Nat) (ks : Nat) (H : Heap) (locs : List Loc) (ls : Array Slot) (nc ns : Nat), K351 h kc ks → x_I G (x_A hN s.heap.size) s.heap h H locs → nc + kc ≤ 950342 → ns + ks ≤ 6245077 → lv_has ls 8 [(0, .ref b)] → W p l e (room_1) s m #[Value.ref b] below meth c H locs nc ns (lw_Z below #[Value.ref b] s) (F0 m 351 ls [])))
    (hK414 : (∀ (h : xH) (kc : Nat) (ks : Nat) (H : Heap) (locs : List Loc) (ls : Array Slot) (nc ns : Nat), K414 h kc ks → x_I G (x_A hN s.heap.size) s.heap h H locs → nc + kc ≤ 950342 → ns + ks ≤ 6245077 → lv_has ls 8 [(0, .ref b)] → W p l e (room_1) s m #[Value.ref b] below meth c H locs nc ns (lw_Z below #[Value.ref b] s) (F0 m 414 ls [])))
    (hK431 : (∀ (h : xH) (kc : Nat) (ks : Nat) (H : Heap) (locs : List Loc) (ls : Array Slot) (nc ns : Nat), K431 h kc ks → x_I G (x_A hN s.heap.size) s.heap h H locs → nc + kc ≤ 950342 → ns + ks ≤ 6245077 → lv_has ls 8 [(0, .ref b)] → W p l e (room_1) s m #[Value.ref b] below meth c H locs nc ns (lw_Z below #[Value.ref b] s) (F0 m 431 ls [])))
    (hK506 : (∀ (h : xH) (kc : Nat) (ks : Nat) (H : Heap) (locs : List Loc) (ls : Array Slot) (nc ns : Nat), K506 h kc ks → x_I G (x_A hN s.heap.size) s.heap h H locs → nc + kc ≤ 950342 → ns + ks ≤ 6245077 → lv_has ls 8 [(0, .ref b)] → W p l e (room_1) s m #[Value.ref b] below meth c H locs nc ns (lw_Z below #[Value.ref b] s) (F0 m 506 ls [])))
    (hK523 : (∀ (h : xH) (kc : Nat) (ks : Nat) (H : Heap) (locs : List Loc) (ls : Array Slot) (nc ns : Nat), K523 h kc ks → x_I G (x_A hN s.heap.size) s.heap h H locs → nc + kc ≤ 950342 → ns + ks ≤ 6245077 → lv_has ls 8 [(0, .ref b)] → W p l e (room_1) s m #[Value.ref b] below meth c H locs nc ns (lw_Z below #[Value.ref b] s) (F0 m 523 ls [])))
    (hK610 : (∀ (h : xH) (kc : Nat) (ks : Nat) (H : Heap) (locs : List Loc) (ls : Array Slot) (nc ns : Nat), K610 h kc ks → x_I G (x_A hN s.heap.size) s.heap h H locs → nc + kc ≤ 950342 → ns + ks ≤ 6245077 → lv_has ls 8 [(0, .ref b)] → W p l e (room_1) s m #[Value.ref b] below meth c H locs nc ns (lw_Z below #[Value.ref b] s) (F0 m 610 ls [])))
    (hK627 : (∀ (h : xH) (kc : Nat) (ks : Nat) (H : Heap) (locs : List Loc) (ls : Array Slot) (nc ns : Nat), K627 h kc ks → x_I G (x_A hN s.heap.size) s.heap h H locs → nc + kc ≤ 950342 → ns + ks ≤ 6245077 → lv_has ls 8 [(0, .ref b)] → W p l e (room_1) s m #[Value.ref b] below meth c H locs nc ns (lw_Z below #[Value.ref b] s) (F0 m 627 ls [])))
    (hK702 : (∀ (h : xH) (kc : Nat) (ks : Nat) (H : Heap) (locs : List Loc) (ls : Array Slot) (nc ns : Nat), K702 h kc ks → x_I G (x_A hN s.heap.size) s.heap h H locs → nc + kc ≤ 950342 → ns + ks ≤ 6245077 → lv_has ls 8 [(0, .ref b)] → W p l e (room_1) s m #[Value.ref b] below meth c H locs nc ns (lw_Z below #[Value.ref b] s) (F0 m 702 ls [])))
    (hK718 : (∀ (h : xH) (kc : Nat) (ks : Nat) (H : Heap) (locs : List Loc) (ls : Array Slot) (nc ns : Nat), K718 h kc ks → x_I G (x_A hN s.heap.size) s.heap h H locs → nc + kc ≤ 950342 → ns + ks ≤ 6245077 → lv_has ls 8 [(0, .ref b)] → W p l e (room_1) s m #[Value.ref b] below meth c H locs nc ns (lw_Z below #[Value.ref b] s) (F0 m 718 ls [])))
    (hK805 : (∀ (h : xH) (kc : Nat) (ks : Nat) (H : Heap) (locs : List Loc) (ls : Array Slot) (nc ns : Nat), K805 h kc ks → x_I G (x_A hN s.heap.size) s.heap h H locs → nc + kc ≤ 950342 → ns + ks ≤ 6245077 → lv_has ls 8 [(0, .ref b)] → W p l e (room_1) s m #[Value.ref b] below meth c H locs nc ns (lw_Z below #[Value.ref b] s) (F0 m 805 ls [])))
    (hK822 : (∀ (h : xH) (kc : Nat) (ks : Nat) (H : Heap) (locs : List Loc) (ls : Array Slot) (nc ns : Nat), K822 h kc ks → x_I G (x_A hN s.heap.size) s.heap h H locs → nc + kc ≤ 950342 → ns + ks ≤ 6245077 → lv_has ls 8 [(0, .ref b)] → W p l e (room_1) s m #[Value.ref b] below meth c H locs nc ns (lw_Z below #[Value.ref b] s) (F0 m 822 ls [])))
    (hK850 : (∀ (h : xH) (kc : Nat) (ks : Nat) (H : Heap) (locs : List Loc) (ls : Array Slot) (nc ns : Nat), K850 h kc ks → x_I G (x_A hN s.heap.size) s.heap h H locs → nc + kc ≤ 950342 → ns + ks ≤ 6245077 → lv_has ls 8 [(0, .ref b)] → W p l e (room_1) s m #[Value.ref b] below meth c H locs nc ns (lw_Z below #[Value.ref b] s) (F0 m 850 ls [])))
    (hK858 : (∀ (h : xH) (kc : Nat) (ks : Nat) (H : Heap) (locs : List Loc) (ls : Array Slot) (nc ns : Nat), K858 h kc ks → x_I G (x_A hN s.heap.size) s.heap h H locs → nc + kc ≤ 950342 → ns + ks ≤ 6245077 → lv_has ls 8 [(0, .ref b)] → W p l e (room_1) s m #[Value.ref b] below meth c H locs nc ns (lw_Z below #[Value.ref b] s) (F0 m 858 ls [])))
    (h : xH) (kc : Nat) (ks : Nat) (x1 : Nat) (x2 : Nat) (x3 : Nat) (x4 : Int32) (H : Heap) (locs : List Loc) (ls : Array Slot) (nc ns : Nat) (hw : wj_L_law_353 L xs post Rc K131 K215 K239 K266 K283 K334 K351 K414 K431 K506 K523 K610 K627 K702 K718 K805 K822 K850 K858 h kc ks x1 x2 x3 x4) (hI : x_I G (x_A hN s.heap.size) s.heap h H locs) (hkc : nc + kc ≤ 950342) (hks : ns + ks ≤ 6245077) (hl : lv_has ls 8 [(0, .ref b), (1, .ref x1), (2, .ref x2), (3, .ref x3), (4, .int x4)]) : W p l e (room_1) s m #[Value.ref b] below meth c H locs nc ns (lw_Z below #[Value.ref b] s) (F0 m 353 ls []) := by
  obtain ⟨hx, hb, hr, hml, hown, hg, hlocks, hK, hZ, hC, hst, hX, hbl, hbA⟩ := id C
  unfold wj_L_law_353 at hw
  refine lv_goto (tgt := 852) hx hb dL_law_353 (by decide) ?_
  exact mj_L_law_852 C  post _ _ _ _ _ _ _ _ _ _ _ _ _ _ _ _ _ _ _ _ (hRc) hK131 hK215 hK239 hK266 hK283 hK334 hK351 hK414 hK431 hK506 hK523 hK610 hK627 hK702 hK718 hK805 hK822 hK850 hK858 _ _ _ _ _ _ _ _ _ _ _ _ hw hI (by omega) (by omega) (lv_sub hl [0, 1, 2, 3, 4] rfl)
set_option maxHeartbeats 4000000 in
set_option maxRecDepth 100000 in
theorem mj_L_law_433 (C : CL p l s m meth c G b L xs)  (post : Unit) (Rc : xH → Nat → Nat → Nat → Nat → Nat → Int32 → Prop) (K131 : xH → Nat → Nat → Prop) (K215 : xH → Nat → Nat → Prop) (K239 : xH → Nat → Nat → Prop) (K266 : xH → Nat → Nat → Prop) (K283 : xH → Nat → Nat → Prop) (K334 : xH → Nat → Nat → Prop) (K351 : xH → Nat → Nat → Prop) (K414 : xH → Nat → Nat → Prop) (K431 : xH → Nat → Nat → Prop) (K506 : xH → Nat → Nat → Prop) (K523 : xH → Nat → Nat → Prop) (K610 : xH → Nat → Nat → Prop) (K627 : xH → Nat → Nat → Prop) (K702 : xH → Nat → Nat → Prop) (K718 : xH → Nat → Nat → Prop) (K805 : xH → Nat → Nat → Prop) (K822 : xH → Nat → Nat → Prop) (K850 : xH → Nat → Nat → Prop) (K858 : xH → Nat → Nat → Prop)
    (hRc : (∀ (h : xH) (kc : Nat) (ks : Nat) (x1 : Nat) (x2 : Nat) (x3 : Nat) (x4 : Int32) (H : Heap) (locs : List Loc) (ls : Array Slot) (nc ns : Nat), Rc h kc ks x1 x2 x3 x4 → x_I G (x_A hN s.heap.size) s.heap h H locs → nc + kc ≤ 950342 → ns + ks ≤ 6245077 → lv_has ls 8 [(0, .ref b), (1, .ref x1), (2, .ref x2), (3, .ref x3), (4, .int x4)] → W p l e (room_1) s m #[Value.ref b] below meth c H locs nc ns (lw_Z below #[Value.ref b] s) (F0 m 23 ls [])))
    (hK131 : (∀ (h : xH) (kc : Nat) (ks : Nat) (H : Heap) (locs : List Loc) (ls : Array Slot) (nc ns : Nat), K131 h kc ks → x_I G (x_A hN s.heap.size) s.heap h H locs → nc + kc ≤ 950342 → ns + ks ≤ 6245077 → lv_has ls 8 [(0, .ref b)] → W p l e (room_1) s m #[Value.ref b] below meth c H locs nc ns (lw_Z below #[Value.ref b] s) (F0 m 131 ls [])))
    (hK215 : (∀ (h : xH) (kc : Nat) (ks : Nat) (H : Heap) (locs : List Loc) (ls : Array Slot) (nc ns : Nat), K215 h kc ks → x_I G (x_A hN s.heap.size) s.heap h H locs → nc + kc ≤ 950342 → ns + ks ≤ 6245077 → lv_has ls 8 [(0, .ref b)] → W p l e (room_1) s m #[Value.ref b] below meth c H locs nc ns (lw_Z below #[Value.ref b] s) (F0 m 215 ls [])))
    (hK239 : (∀ (h : xH) (kc : Nat) (ks : Nat) (H : Heap) (locs : List Loc) (ls : Array Slot) (nc ns : Nat), K239 h kc ks → x_I G (x_A hN s.heap.size) s.heap h H locs → nc + kc ≤ 950342 → ns + ks ≤ 6245077 → lv_has ls 8 [(0, .ref b)] → W p l e (room_1) s m #[Value.ref b] below meth c H locs nc ns (lw_Z below #[Value.ref b] s) (F0 m 239 ls [])))
    (hK266 : (∀ (h : xH) (kc : Nat) (ks : Nat) (H : Heap) (locs : List Loc) (ls : Array Slot) (nc ns : Nat), K266 h kc ks → x_I G (x_A hN s.heap.size) s.heap h H locs → nc + kc ≤ 950342 → ns + ks ≤ 6245077 → lv_has ls 8 [(0, .ref b)] → W p l e (room_1) s m #[Value.ref b] below meth c H locs nc ns (lw_Z below #[Value.ref b] s) (F0 m 266 ls [])))
    (hK283 : (∀ (h : xH) (kc : Nat) (ks : Nat) (H : Heap) (locs : List Loc) (ls : Array Slot) (nc ns : Nat), K283 h kc ks → x_I G (x_A hN s.heap.size) s.heap h H locs → nc + kc ≤ 950342 → ns + ks ≤ 6245077 → lv_has ls 8 [(0, .ref b)] → W p l e (room_1) s m #[Value.ref b] below meth c H locs nc ns (lw_Z below #[Value.ref b] s) (F0 m 283 ls [])))
    (hK334 : (∀ (h : xH) (kc : Nat) (ks : Nat) (H : Heap) (locs : List Loc) (ls : Array Slot) (nc ns : Nat), K334 h kc ks → x_I G (x_A hN s.heap.size) s.heap h H locs → nc + kc ≤ 950342 → ns + ks ≤ 6245077 → lv_has ls 8 [(0, .ref b)] → W p l e (room_1) s m #[Value.ref b] below meth c H locs nc ns (lw_Z below #[Value.ref b] s) (F0 m 334 ls [])))
    (hK351 : (∀ (h : xH) (kc : Nat) (ks : Nat) (H : Heap) (locs : List Loc) (ls : Array Slot) (nc ns : Nat), K351 h kc ks → x_I G (x_A hN s.heap.size) s.heap h H locs → nc + kc ≤ 950342 → ns + ks ≤ 6245077 → lv_has ls 8 [(0, .ref b)] → W p l e (room_1) s m #[Value.ref b] below meth c H locs nc ns (lw_Z below #[Value.ref b] s) (F0 m 351 ls [])))
    (hK414 : (∀ (h : xH) (kc : Nat) (ks : Nat) (H : Heap) (locs : List Loc) (ls : Array Slot) (nc ns : Nat), K414 h kc ks → x_I G (x_A hN s.heap.size) s.heap h H locs → nc + kc ≤ 950342 → ns + ks ≤ 6245077 → lv_has ls 8 [(0, .ref b)] → W p l e (room_1) s m #[Value.ref b] below meth c H locs nc ns (lw_Z below #[Value.ref b] s) (F0 m 414 ls [])))
    (hK431 : (∀ (h : xH) (kc : Nat) (ks : Nat) (H : Heap) (locs : List Loc) (ls : Array Slot) (nc ns : Nat), K431 h kc ks → x_I G (x_A hN s.heap.size) s.heap h H locs → nc + kc ≤ 950342 → ns + ks ≤ 6245077 → lv_has ls 8 [(0, .ref b)] → W p l e (room_1) s m #[Value.ref b] below meth c H locs nc ns (lw_Z below #[Value.ref b] s) (F0 m 431 ls [])))
    (hK506 : (∀ (h : xH) (kc : Nat) (ks : Nat) (H : Heap) (locs : List Loc) (ls : Array Slot) (nc ns : Nat), K506 h kc ks → x_I G (x_A hN s.heap.size) s.heap h H locs → nc + kc ≤ 950342 → ns + ks ≤ 6245077 → lv_has ls 8 [(0, .ref b)] → W p l e (room_1) s m #[Value.ref b] below meth c H locs nc ns (lw_Z below #[Value.ref b] s) (F0 m 506 ls [])))
    (hK523 : (∀ (h : xH) (kc : Nat) (ks : Nat) (H : Heap) (locs : List Loc) (ls : Array Slot) (nc ns : Nat), K523 h kc ks → x_I G (x_A hN s.heap.size) s.heap h H locs → nc + kc ≤ 950342 → ns + ks ≤ 6245077 → lv_has ls 8 [(0, .ref b)] → W p l e (room_1) s m #[Value.ref b] below meth c H locs nc ns (lw_Z below #[Value.ref b] s) (F0 m 523 ls [])))
    (hK610 : (∀ (h : xH) (kc : Nat) (ks : Nat) (H : Heap) (locs : List Loc) (ls : Array Slot) (nc ns : Nat), K610 h kc ks → x_I G (x_A hN s.heap.size) s.heap h H locs → nc + kc ≤ 950342 → ns + ks ≤ 6245077 → lv_has ls 8 [(0, .ref b)] → W p l e (room_1) s m #[Value.ref b] below meth c H locs nc ns (lw_Z below #[Value.ref b] s) (F0 m 610 ls [])))
    (hK627 : (∀ (h : xH) (kc : Nat) (ks : Nat) (H : Heap) (locs : List Loc) (ls : Array Slot) (nc ns : Nat), K627 h kc ks → x_I G (x_A hN s.heap.size) s.heap h H locs → nc + kc ≤ 950342 → ns + ks ≤ 6245077 → lv_has ls 8 [(0, .ref b)] → W p l e (room_1) s m #[Value.ref b] below meth c H locs nc ns (lw_Z below #[Value.ref b] s) (F0 m 627 ls [])))
    (hK702 : (∀ (h : xH) (kc : Nat) (ks : Nat) (H : Heap) (locs : List Loc) (ls : Array Slot) (nc ns : Nat), K702 h kc ks → x_I G (x_A hN s.heap.size) s.heap h H locs → nc + kc ≤ 950342 → ns + ks ≤ 6245077 → lv_has ls 8 [(0, .ref b)] → W p l e (room_1) s m #[Value.ref b] below meth c H locs nc ns (lw_Z below #[Value.ref b] s) (F0 m 702 ls [])))
    (hK718 : (∀ (h : xH) (kc : Nat) (ks : Nat) (H : Heap) (locs : List Loc) (ls : Array Slot) (nc ns : Nat), K718 h kc ks → x_I G (x_A hN s.heap.size) s.heap h H locs → nc + kc ≤ 950342 → ns + ks ≤ 6245077 → lv_has ls 8 [(0, .ref b)] → W p l e (room_1) s m #[Value.ref b] below meth c H locs nc ns (lw_Z below #[Value.ref b] s) (F0 m 718 ls [])))
    (hK805 : (∀ (h : xH) (kc : Nat) (ks : Nat) (H : Heap) (locs : List Loc) (ls : Array Slot) (nc ns : Nat), K805 h kc ks → x_I G (x_A hN s.heap.size) s.heap h H locs → nc + kc ≤ 950342 → ns + ks ≤ 6245077 → lv_has ls 8 [(0, .ref b)] → W p l e (room_1) s m #[Value.ref b] below meth c H locs nc ns (lw_Z below #[Value.ref b] s) (F0 m 805 ls [])))
    (hK822 : (∀ (h : xH) (kc : Nat) (ks : Nat) (H : Heap) (locs : List Loc) (ls : Array Slot) (nc ns : Nat), K822 h kc ks → x_I G (x_A hN s.heap.size) s.heap h H locs → nc + kc ≤ 950342 → ns + ks ≤ 6245077 → lv_has ls 8 [(0, .ref b)] → W p l e (room_1) s m #[Value.ref b] below meth c H locs nc ns (lw_Z below #[Value.ref b] s) (F0 m 822 ls [])))
    (hK850 : (∀ (h : xH) (kc : Nat) (ks : Nat) (H : Heap) (locs : List Loc) (ls : Array Slot) (nc ns : Nat), K850 h kc ks → x_I G (x_A hN s.heap.size) s.heap h H locs → nc + kc ≤ 950342 → ns + ks ≤ 6245077 → lv_has ls 8 [(0, .ref b)] → W p l e (room_1) s m #[Value.ref b] below meth c H locs nc ns (lw_Z below #[Value.ref b] s) (F0 m 850 ls [])))
    (hK858 : (∀ (h : xH) (kc : Nat) (ks : Nat) (H : Heap) (locs : List Loc) (ls : Array Slot) (nc ns : Nat), K858 h kc ks → x_I G (x_A hN s.heap.size) s.heap h H locs → nc + kc ≤ 950342 → ns + ks ≤ 6245077 → lv_has ls 8 [(0, .ref b)] → W p l e (room_1) s m #[Value.ref b] below meth c H locs nc ns (lw_Z below #[Value.ref b] s) (F0 m 858 ls [])))
    (h : xH) (kc : Nat) (ks : Nat) (x1 : Nat) (x2 : Nat) (x3 : Nat) (x4 : Int32) (H : Heap) (locs : List Loc) (ls : Array Slot) (nc ns : Nat) (hw : wj_L_law_433 L xs post Rc K131 K215 K239 K266 K283 K334 K351 K414 K431 K506 K523 K610 K627 K702 K718 K805 K822 K850 K858 h kc ks x1 x2 x3 x4) (hI : x_I G (x_A hN s.heap.size) s.heap h H locs) (hkc : nc + kc ≤ 950342) (hks : ns + ks ≤ 6245077) (hl : lv_has ls 8 [(0, .ref b), (1, .ref x1), (2, .ref x2), (3, .ref x3), (4, .int x4)]) : W p l e (room_1) s m #[Value.ref b] below meth c H locs nc ns (lw_Z below #[Value.ref b] s) (F0 m 433 ls []) := by
  obtain ⟨hx, hb, hr, hml, hown, hg, hlocks, hK, hZ, hC, hst, hX, hbl, hbA⟩ := id C
  unfold wj_L_law_433 at hw
  refine lv_goto (tgt := 852) hx hb dL_law_433 (by decide) ?_
  exact mj_L_law_852 C  post _ _ _ _ _ _ _ _ _ _ _ _ _ _ _ _ _ _ _ _ (hRc) hK131 hK215 hK239 hK266 hK283 hK334 hK351 hK414 hK431 hK506 hK523 hK610 hK627 hK702 hK718 hK805 hK822 hK850 hK858 _ _ _ _ _ _ _ _ _ _ _ _ hw hI (by omega) (by omega) (lv_sub hl [0, 1, 2, 3, 4] rfl)
set_option maxHeartbeats 4000000 in
set_option maxRecDepth 100000 in
theorem mj_L_law_525 (C : CL p l s m meth c G b L xs)  (post : Unit) (Rc : xH → Nat → Nat → Nat → Nat → Nat → Int32 → Prop) (K131 : xH → Nat → Nat → Prop) (K215 : xH → Nat → Nat → Prop) (K239 : xH → Nat → Nat → Prop) (K266 : xH → Nat → Nat → Prop) (K283 : xH → Nat → Nat → Prop) (K334 : xH → Nat → Nat → Prop) (K351 : xH → Nat → Nat → Prop) (K414 : xH → Nat → Nat → Prop) (K431 : xH → Nat → Nat → Prop) (K506 : xH → Nat → Nat → Prop) (K523 : xH → Nat → Nat → Prop) (K610 : xH → Nat → Nat → Prop) (K627 : xH → Nat → Nat → Prop) (K702 : xH → Nat → Nat → Prop) (K718 : xH → Nat → Nat → Prop) (K805 : xH → Nat → Nat → Prop) (K822 : xH → Nat → Nat → Prop) (K850 : xH → Nat → Nat → Prop) (K858 : xH → Nat → Nat → Prop)
    (hRc : (∀ (h : xH) (kc : Nat) (ks : Nat) (x1 : Nat) (x2 : Nat) (x3 : Nat) (x4 : Int32) (H : Heap) (locs : List Loc) (ls : Array Slot) (nc ns : Nat), Rc h kc ks x1 x2 x3 x4 → x_I G (x_A hN s.heap.size) s.heap h H locs → nc + kc ≤ 950342 → ns + ks ≤ 6245077 → lv_has ls 8 [(0, .ref b), (1, .ref x1), (2, .ref x2), (3, .ref x3), (4, .int x4)] → W p l e (room_1) s m #[Value.ref b] below meth c H locs nc ns (lw_Z below #[Value.ref b] s) (F0 m 23 ls [])))
    (hK131 : (∀ (h : xH) (kc : Nat) (ks : Nat) (H : Heap) (locs : List Loc) (ls : Array Slot) (nc ns : Nat), K131 h kc ks → x_I G (x_A hN s.heap.size) s.heap h H locs → nc + kc ≤ 950342 → ns + ks ≤ 6245077 → lv_has ls 8 [(0, .ref b)] → W p l e (room_1) s m #[Value.ref b] below meth c H locs nc ns (lw_Z below #[Value.ref b] s) (F0 m 131 ls [])))
    (hK215 : (∀ (h : xH) (kc : Nat) (ks : Nat) (H : Heap) (locs : List Loc) (ls : Array Slot) (nc ns : Nat), K215 h kc ks → x_I G (x_A hN s.heap.size) s.heap h H locs → nc + kc ≤ 950342 → ns + ks ≤ 6245077 → lv_has ls 8 [(0, .ref b)] → W p l e (room_1) s m #[Value.ref b] below meth c H locs nc ns (lw_Z below #[Value.ref b] s) (F0 m 215 ls [])))
    (hK239 : (∀ (h : xH) (kc : Nat) (ks : Nat) (H : Heap) (locs : List Loc) (ls : Array Slot) (nc ns : Nat), K239 h kc ks → x_I G (x_A hN s.heap.size) s.heap h H locs → nc + kc ≤ 950342 → ns + ks ≤ 6245077 → lv_has ls 8 [(0, .ref b)] → W p l e (room_1) s m #[Value.ref b] below meth c H locs nc ns (lw_Z below #[Value.ref b] s) (F0 m 239 ls [])))
    (hK266 : (∀ (h : xH) (kc : Nat) (ks : Nat) (H : Heap) (locs : List Loc) (ls : Array Slot) (nc ns : Nat), K266 h kc ks → x_I G (x_A hN s.heap.size) s.heap h H locs → nc + kc ≤ 950342 → ns + ks ≤ 6245077 → lv_has ls 8 [(0, .ref b)] → W p l e (room_1) s m #[Value.ref b] below meth c H locs nc ns (lw_Z below #[Value.ref b] s) (F0 m 266 ls [])))
    (hK283 : (∀ (h : xH) (kc : Nat) (ks : Nat) (H : Heap) (locs : List Loc) (ls : Array Slot) (nc ns : Nat), K283 h kc ks → x_I G (x_A hN s.heap.size) s.heap h H locs → nc + kc ≤ 950342 → ns + ks ≤ 6245077 → lv_has ls 8 [(0, .ref b)] → W p l e (room_1) s m #[Value.ref b] below meth c H locs nc ns (lw_Z below #[Value.ref b] s) (F0 m 283 ls [])))
    (hK334 : (∀ (h : xH) (kc : Nat) (ks : Nat) (H : Heap) (locs : List Loc) (ls : Array Slot) (nc ns : Nat), K334 h kc ks → x_I G (x_A hN s.heap.size) s.heap h H locs → nc + kc ≤ 950342 → ns + ks ≤ 6245077 → lv_has ls 8 [(0, .ref b)] → W p l e (room_1) s m #[Value.ref b] below meth c H locs nc ns (lw_Z below #[Value.ref b] s) (F0 m 334 ls [])))
    (hK351 : (∀ (h : xH) (kc : Nat) (ks : Nat) (H : Heap) (locs : List Loc) (ls : Array Slot) (nc ns : Nat), K351 h kc ks → x_I G (x_A hN s.heap.size) s.heap h H locs → nc + kc ≤ 950342 → ns + ks ≤ 6245077 → lv_has ls 8 [(0, .ref b)] → W p l e (room_1) s m #[Value.ref b] below meth c H locs nc ns (lw_Z below #[Value.ref b] s) (F0 m 351 ls [])))
    (hK414 : (∀ (h : xH) (kc : Nat) (ks : Nat) (H : Heap) (locs : List Loc) (ls : Array Slot) (nc ns : Nat), K414 h kc ks → x_I G (x_A hN s.heap.size) s.heap h H locs → nc + kc ≤ 950342 → ns + ks ≤ 6245077 → lv_has ls 8 [(0, .ref b)] → W p l e (room_1) s m #[Value.ref b] below meth c H locs nc ns (lw_Z below #[Value.ref b] s) (F0 m 414 ls [])))
    (hK431 : (∀ (h : xH) (kc : Nat) (ks : Nat) (H : Heap) (locs : List Loc) (ls : Array Slot) (nc ns : Nat), K431 h kc ks → x_I G (x_A hN s.heap.size) s.heap h H locs → nc + kc ≤ 950342 → ns + ks ≤ 6245077 → lv_has ls 8 [(0, .ref b)] → W p l e (room_1) s m #[Value.ref b] below meth c H locs nc ns (lw_Z below #[Value.ref b] s) (F0 m 431 ls [])))
    (hK506 : (∀ (h : xH) (kc : Nat) (ks : Nat) (H : Heap) (locs : List Loc) (ls : Array Slot) (nc ns : Nat), K506 h kc ks → x_I G (x_A hN s.heap.size) s.heap h H locs → nc + kc ≤ 950342 → ns + ks ≤ 6245077 → lv_has ls 8 [(0, .ref b)] → W p l e (room_1) s m #[Value.ref b] below meth c H locs nc ns (lw_Z below #[Value.ref b] s) (F0 m 506 ls [])))
    (hK523 : (∀ (h : xH) (kc : Nat) (ks : Nat) (H : Heap) (locs : List Loc) (ls : Array Slot) (nc ns : Nat), K523 h kc ks → x_I G (x_A hN s.heap.size) s.heap h H locs → nc + kc ≤ 950342 → ns + ks ≤ 6245077 → lv_has ls 8 [(0, .ref b)] → W p l e (room_1) s m #[Value.ref b] below meth c H locs nc ns (lw_Z below #[Value.ref b] s) (F0 m 523 ls [])))
    (hK610 : (∀ (h : xH) (kc : Nat) (ks : Nat) (H : Heap) (locs : List Loc) (ls : Array Slot) (nc ns : Nat), K610 h kc ks → x_I G (x_A hN s.heap.size) s.heap h H locs → nc + kc ≤ 950342 → ns + ks ≤ 6245077 → lv_has ls 8 [(0, .ref b)] → W p l e (room_1) s m #[Value.ref b] below meth c H locs nc ns (lw_Z below #[Value.ref b] s) (F0 m 610 ls [])))
    (hK627 : (∀ (h : xH) (kc : Nat) (ks : Nat) (H : Heap) (locs : List Loc) (ls : Array Slot) (nc ns : Nat), K627 h kc ks → x_I G (x_A hN s.heap.size) s.heap h H locs → nc + kc ≤ 950342 → ns + ks ≤ 6245077 → lv_has ls 8 [(0, .ref b)] → W p l e (room_1) s m #[Value.ref b] below meth c H locs nc ns (lw_Z below #[Value.ref b] s) (F0 m 627 ls [])))
    (hK702 : (∀ (h : xH) (kc : Nat) (ks : Nat) (H : Heap) (locs : List Loc) (ls : Array Slot) (nc ns : Nat), K702 h kc ks → x_I G (x_A hN s.heap.size) s.heap h H locs → nc + kc ≤ 950342 → ns + ks ≤ 6245077 → lv_has ls 8 [(0, .ref b)] → W p l e (room_1) s m #[Value.ref b] below meth c H locs nc ns (lw_Z below #[Value.ref b] s) (F0 m 702 ls [])))
    (hK718 : (∀ (h : xH) (kc : Nat) (ks : Nat) (H : Heap) (locs : List Loc) (ls : Array Slot) (nc ns : Nat), K718 h kc ks → x_I G (x_A hN s.heap.size) s.heap h H locs → nc + kc ≤ 950342 → ns + ks ≤ 6245077 → lv_has ls 8 [(0, .ref b)] → W p l e (room_1) s m #[Value.ref b] below meth c H locs nc ns (lw_Z below #[Value.ref b] s) (F0 m 718 ls [])))
    (hK805 : (∀ (h : xH) (kc : Nat) (ks : Nat) (H : Heap) (locs : List Loc) (ls : Array Slot) (nc ns : Nat), K805 h kc ks → x_I G (x_A hN s.heap.size) s.heap h H locs → nc + kc ≤ 950342 → ns + ks ≤ 6245077 → lv_has ls 8 [(0, .ref b)] → W p l e (room_1) s m #[Value.ref b] below meth c H locs nc ns (lw_Z below #[Value.ref b] s) (F0 m 805 ls [])))
    (hK822 : (∀ (h : xH) (kc : Nat) (ks : Nat) (H : Heap) (locs : List Loc) (ls : Array Slot) (nc ns : Nat), K822 h kc ks → x_I G (x_A hN s.heap.size) s.heap h H locs → nc + kc ≤ 950342 → ns + ks ≤ 6245077 → lv_has ls 8 [(0, .ref b)] → W p l e (room_1) s m #[Value.ref b] below meth c H locs nc ns (lw_Z below #[Value.ref b] s) (F0 m 822 ls [])))
    (hK850 : (∀ (h : xH) (kc : Nat) (ks : Nat) (H : Heap) (locs : List Loc) (ls : Array Slot) (nc ns : Nat), K850 h kc ks → x_I G (x_A hN s.heap.size) s.heap h H locs → nc + kc ≤ 950342 → ns + ks ≤ 6245077 → lv_has ls 8 [(0, .ref b)] → W p l e (room_1) s m #[Value.ref b] below meth c H locs nc ns (lw_Z below #[Value.ref b] s) (F0 m 850 ls [])))
    (hK858 : (∀ (h : xH) (kc : Nat) (ks : Nat) (H : Heap) (locs : List Loc) (ls : Array Slot) (nc ns : Nat), K858 h kc ks → x_I G (x_A hN s.heap.size) s.heap h H locs → nc + kc ≤ 950342 → ns + ks ≤ 6245077 → lv_has ls 8 [(0, .ref b)] → W p l e (room_1) s m #[Value.ref b] below meth c H locs nc ns (lw_Z below #[Value.ref b] s) (F0 m 858 ls [])))
    (h : xH) (kc : Nat) (ks : Nat) (x1 : Nat) (x2 : Nat) (x3 : Nat) (x4 : Int32) (H : Heap) (locs : List Loc) (ls : Array Slot) (nc ns : Nat) (hw : wj_L_law_525 L xs post Rc K131 K215 K239 K266 K283 K334 K351 K414 K431 K506 K523 K610 K627 K702 K718 K805 K822 K850 K858 h kc ks x1 x2 x3 x4) (hI : x_I G (x_A hN s.heap.size) s.heap h H locs) (hkc : nc + kc ≤ 950342) (hks : ns + ks ≤ 6245077) (hl : lv_has ls 8 [(0, .ref b), (1, .ref x1), (2, .ref x2), (3, .ref x3), (4, .int x4)]) : W p l e (room_1) s m #[Value.ref b] below meth c H locs nc ns (lw_Z below #[Value.ref b] s) (F0 m 525 ls []) := by
  obtain ⟨hx, hb, hr, hml, hown, hg, hlocks, hK, hZ, hC, hst, hX, hbl, hbA⟩ := id C
  unfold wj_L_law_525 at hw
  refine lv_goto (tgt := 852) hx hb dL_law_525 (by decide) ?_
  exact mj_L_law_852 C  post _ _ _ _ _ _ _ _ _ _ _ _ _ _ _ _ _ _ _ _ (hRc) hK131 hK215 hK239 hK266 hK283 hK334 hK351 hK414 hK431 hK506 hK523 hK610 hK627 hK702 hK718 hK805 hK822 hK850 hK858 _ _ _ _ _ _ _ _ _ _ _ _ hw hI (by omega) (by omega) (lv_sub hl [0, 1, 2, 3, 4] rfl)
set_option maxHeartbeats 4000000 in
set_option maxRecDepth 100000 in
theorem mj_L_law_629 (C : CL p l s m meth c G b L xs)  (post : Unit) (Rc : xH → Nat → Nat → Nat → Nat → Nat → Int32 → Prop) (K131 : xH → Nat → Nat → Prop) (K215 : xH → Nat → Nat → Prop) (K239 : xH → Nat → Nat → Prop) (K266 : xH → Nat → Nat → Prop) (K283 : xH → Nat → Nat → Prop) (K334 : xH → Nat → Nat → Prop) (K351 : xH → Nat → Nat → Prop) (K414 : xH → Nat → Nat → Prop) (K431 : xH → Nat → Nat → Prop) (K506 : xH → Nat → Nat → Prop) (K523 : xH → Nat → Nat → Prop) (K610 : xH → Nat → Nat → Prop) (K627 : xH → Nat → Nat → Prop) (K702 : xH → Nat → Nat → Prop) (K718 : xH → Nat → Nat → Prop) (K805 : xH → Nat → Nat → Prop) (K822 : xH → Nat → Nat → Prop) (K850 : xH → Nat → Nat → Prop) (K858 : xH → Nat → Nat → Prop)
    (hRc : (∀ (h : xH) (kc : Nat) (ks : Nat) (x1 : Nat) (x2 : Nat) (x3 : Nat) (x4 : Int32) (H : Heap) (locs : List Loc) (ls : Array Slot) (nc ns : Nat), Rc h kc ks x1 x2 x3 x4 → x_I G (x_A hN s.heap.size) s.heap h H locs → nc + kc ≤ 950342 → ns + ks ≤ 6245077 → lv_has ls 8 [(0, .ref b), (1, .ref x1), (2, .ref x2), (3, .ref x3), (4, .int x4)] → W p l e (room_1) s m #[Value.ref b] below meth c H locs nc ns (lw_Z below #[Value.ref b] s) (F0 m 23 ls [])))
    (hK131 : (∀ (h : xH) (kc : Nat) (ks : Nat) (H : Heap) (locs : List Loc) (ls : Array Slot) (nc ns : Nat), K131 h kc ks → x_I G (x_A hN s.heap.size) s.heap h H locs → nc + kc ≤ 950342 → ns + ks ≤ 6245077 → lv_has ls 8 [(0, .ref b)] → W p l e (room_1) s m #[Value.ref b] below meth c H locs nc ns (lw_Z below #[Value.ref b] s) (F0 m 131 ls [])))
    (hK215 : (∀ (h : xH) (kc : Nat) (ks : Nat) (H : Heap) (locs : List Loc) (ls : Array Slot) (nc ns : Nat), K215 h kc ks → x_I G (x_A hN s.heap.size) s.heap h H locs → nc + kc ≤ 950342 → ns + ks ≤ 6245077 → lv_has ls 8 [(0, .ref b)] → W p l e (room_1) s m #[Value.ref b] below meth c H locs nc ns (lw_Z below #[Value.ref b] s) (F0 m 215 ls [])))
    (hK239 : (∀ (h : xH) (kc : Nat) (ks : Nat) (H : Heap) (locs : List Loc) (ls : Array Slot) (nc ns : Nat), K239 h kc ks → x_I G (x_A hN s.heap.size) s.heap h H locs → nc + kc ≤ 950342 → ns + ks ≤ 6245077 → lv_has ls 8 [(0, .ref b)] → W p l e (room_1) s m #[Value.ref b] below meth c H locs nc ns (lw_Z below #[Value.ref b] s) (F0 m 239 ls [])))
    (hK266 : (∀ (h : xH) (kc : Nat) (ks : Nat) (H : Heap) (locs : List Loc) (ls : Array Slot) (nc ns : Nat), K266 h kc ks → x_I G (x_A hN s.heap.size) s.heap h H locs → nc + kc ≤ 950342 → ns + ks ≤ 6245077 → lv_has ls 8 [(0, .ref b)] → W p l e (room_1) s m #[Value.ref b] below meth c H locs nc ns (lw_Z below #[Value.ref b] s) (F0 m 266 ls [])))
    (hK283 : (∀ (h : xH) (kc : Nat) (ks : Nat) (H : Heap) (locs : List Loc) (ls : Array Slot) (nc ns : Nat), K283 h kc ks → x_I G (x_A hN s.heap.size) s.heap h H locs → nc + kc ≤ 950342 → ns + ks ≤ 6245077 → lv_has ls 8 [(0, .ref b)] → W p l e (room_1) s m #[Value.ref b] below meth c H locs nc ns (lw_Z below #[Value.ref b] s) (F0 m 283 ls [])))
    (hK334 : (∀ (h : xH) (kc : Nat) (ks : Nat) (H : Heap) (locs : List Loc) (ls : Array Slot) (nc ns : Nat), K334 h kc ks → x_I G (x_A hN s.heap.size) s.heap h H locs → nc + kc ≤ 950342 → ns + ks ≤ 6245077 → lv_has ls 8 [(0, .ref b)] → W p l e (room_1) s m #[Value.ref b] below meth c H locs nc ns (lw_Z below #[Value.ref b] s) (F0 m 334 ls [])))
    (hK351 : (∀ (h : xH) (kc : Nat) (ks : Nat) (H : Heap) (locs : List Loc) (ls : Array Slot) (nc ns : Nat), K351 h kc ks → x_I G (x_A hN s.heap.size) s.heap h H locs → nc + kc ≤ 950342 → ns + ks ≤ 6245077 → lv_has ls 8 [(0, .ref b)] → W p l e (room_1) s m #[Value.ref b] below meth c H locs nc ns (lw_Z below #[Value.ref b] s) (F0 m 351 ls [])))
    (hK414 : (∀ (h : xH) (kc : Nat) (ks : Nat) (H : Heap) (locs : List Loc) (ls : Array Slot) (nc ns : Nat), K414 h kc ks → x_I G (x_A hN s.heap.size) s.heap h H locs → nc + kc ≤ 950342 → ns + ks ≤ 6245077 → lv_has ls 8 [(0, .ref b)] → W p l e (room_1) s m #[Value.ref b] below meth c H locs nc ns (lw_Z below #[Value.ref b] s) (F0 m 414 ls [])))
    (hK431 : (∀ (h : xH) (kc : Nat) (ks : Nat) (H : Heap) (locs : List Loc) (ls : Array Slot) (nc ns : Nat), K431 h kc ks → x_I G (x_A hN s.heap.size) s.heap h H locs → nc + kc ≤ 950342 → ns + ks ≤ 6245077 → lv_has ls 8 [(0, .ref b)] → W p l e (room_1) s m #[Value.ref b] below meth c H locs nc ns (lw_Z below #[Value.ref b] s) (F0 m 431 ls [])))
    (hK506 : (∀ (h : xH) (kc : Nat) (ks : Nat) (H : Heap) (locs : List Loc) (ls : Array Slot) (nc ns : Nat), K506 h kc ks → x_I G (x_A hN s.heap.size) s.heap h H locs → nc + kc ≤ 950342 → ns + ks ≤ 6245077 → lv_has ls 8 [(0, .ref b)] → W p l e (room_1) s m #[Value.ref b] below meth c H locs nc ns (lw_Z below #[Value.ref b] s) (F0 m 506 ls [])))
    (hK523 : (∀ (h : xH) (kc : Nat) (ks : Nat) (H : Heap) (locs : List Loc) (ls : Array Slot) (nc ns : Nat), K523 h kc ks → x_I G (x_A hN s.heap.size) s.heap h H locs → nc + kc ≤ 950342 → ns + ks ≤ 6245077 → lv_has ls 8 [(0, .ref b)] → W p l e (room_1) s m #[Value.ref b] below meth c H locs nc ns (lw_Z below #[Value.ref b] s) (F0 m 523 ls [])))
    (hK610 : (∀ (h : xH) (kc : Nat) (ks : Nat) (H : Heap) (locs : List Loc) (ls : Array Slot) (nc ns : Nat), K610 h kc ks → x_I G (x_A hN s.heap.size) s.heap h H locs → nc + kc ≤ 950342 → ns + ks ≤ 6245077 → lv_has ls 8 [(0, .ref b)] → W p l e (room_1) s m #[Value.ref b] below meth c H locs nc ns (lw_Z below #[Value.ref b] s) (F0 m 610 ls [])))
    (hK627 : (∀ (h : xH) (kc : Nat) (ks : Nat) (H : Heap) (locs : List Loc) (ls : Array Slot) (nc ns : Nat), K627 h kc ks → x_I G (x_A hN s.heap.size) s.heap h H locs → nc + kc ≤ 950342 → ns + ks ≤ 6245077 → lv_has ls 8 [(0, .ref b)] → W p l e (room_1) s m #[Value.ref b] below meth c H locs nc ns (lw_Z below #[Value.ref b] s) (F0 m 627 ls [])))
    (hK702 : (∀ (h : xH) (kc : Nat) (ks : Nat) (H : Heap) (locs : List Loc) (ls : Array Slot) (nc ns : Nat), K702 h kc ks → x_I G (x_A hN s.heap.size) s.heap h H locs → nc + kc ≤ 950342 → ns + ks ≤ 6245077 → lv_has ls 8 [(0, .ref b)] → W p l e (room_1) s m #[Value.ref b] below meth c H locs nc ns (lw_Z below #[Value.ref b] s) (F0 m 702 ls [])))
    (hK718 : (∀ (h : xH) (kc : Nat) (ks : Nat) (H : Heap) (locs : List Loc) (ls : Array Slot) (nc ns : Nat), K718 h kc ks → x_I G (x_A hN s.heap.size) s.heap h H locs → nc + kc ≤ 950342 → ns + ks ≤ 6245077 → lv_has ls 8 [(0, .ref b)] → W p l e (room_1) s m #[Value.ref b] below meth c H locs nc ns (lw_Z below #[Value.ref b] s) (F0 m 718 ls [])))
    (hK805 : (∀ (h : xH) (kc : Nat) (ks : Nat) (H : Heap) (locs : List Loc) (ls : Array Slot) (nc ns : Nat), K805 h kc ks → x_I G (x_A hN s.heap.size) s.heap h H locs → nc + kc ≤ 950342 → ns + ks ≤ 6245077 → lv_has ls 8 [(0, .ref b)] → W p l e (room_1) s m #[Value.ref b] below meth c H locs nc ns (lw_Z below #[Value.ref b] s) (F0 m 805 ls [])))
    (hK822 : (∀ (h : xH) (kc : Nat) (ks : Nat) (H : Heap) (locs : List Loc) (ls : Array Slot) (nc ns : Nat), K822 h kc ks → x_I G (x_A hN s.heap.size) s.heap h H locs → nc + kc ≤ 950342 → ns + ks ≤ 6245077 → lv_has ls 8 [(0, .ref b)] → W p l e (room_1) s m #[Value.ref b] below meth c H locs nc ns (lw_Z below #[Value.ref b] s) (F0 m 822 ls [])))
    (hK850 : (∀ (h : xH) (kc : Nat) (ks : Nat) (H : Heap) (locs : List Loc) (ls : Array Slot) (nc ns : Nat), K850 h kc ks → x_I G (x_A hN s.heap.size) s.heap h H locs → nc + kc ≤ 950342 → ns + ks ≤ 6245077 → lv_has ls 8 [(0, .ref b)] → W p l e (room_1) s m #[Value.ref b] below meth c H locs nc ns (lw_Z below #[Value.ref b] s) (F0 m 850 ls [])))
    (hK858 : (∀ (h : xH) (kc : Nat) (ks : Nat) (H : Heap) (locs : List Loc) (ls : Array Slot) (nc ns : Nat), K858 h kc ks → x_I G (x_A hN s.heap.size) s.heap h H locs → nc + kc ≤ 950342 → ns + ks ≤ 6245077 → lv_has ls 8 [(0, .ref b)] → W p l e (room_1) s m #[Value.ref b] below meth c H locs nc ns (lw_Z below #[Value.ref b] s) (F0 m 858 ls [])))
    (h : xH) (kc : Nat) (ks : Nat) (x1 : Nat) (x2 : Nat) (x3 : Nat) (x4 : Int32) (H : Heap) (locs : List Loc) (ls : Array Slot) (nc ns : Nat) (hw : wj_L_law_629 L xs post Rc K131 K215 K239 K266 K283 K334 K351 K414 K431 K506 K523 K610 K627 K702 K718 K805 K822 K850 K858 h kc ks x1 x2 x3 x4) (hI : x_I G (x_A hN s.heap.size) s.heap h H locs) (hkc : nc + kc ≤ 950342) (hks : ns + ks ≤ 6245077) (hl : lv_has ls 8 [(0, .ref b), (1, .ref x1), (2, .ref x2), (3, .ref x3), (4, .int x4)]) : W p l e (room_1) s m #[Value.ref b] below meth c H locs nc ns (lw_Z below #[Value.ref b] s) (F0 m 629 ls []) := by
  obtain ⟨hx, hb, hr, hml, hown, hg, hlocks, hK, hZ, hC, hst, hX, hbl, hbA⟩ := id C
  unfold wj_L_law_629 at hw
  refine lv_goto (tgt := 852) hx hb dL_law_629 (by decide) ?_
  exact mj_L_law_852 C  post _ _ _ _ _ _ _ _ _ _ _ _ _ _ _ _ _ _ _ _ (hRc) hK131 hK215 hK239 hK266 hK283 hK334 hK351 hK414 hK431 hK506 hK523 hK610 hK627 hK702 hK718 hK805 hK822 hK850 hK858 _ _ _ _ _ _ _ _ _ _ _ _ hw hI (by omega) (by omega) (lv_sub hl [0, 1, 2, 3, 4] rfl)
set_option maxHeartbeats 4000000 in
set_option maxRecDepth 100000 in
theorem mj_L_law_720 (C : CL p l s m meth c G b L xs)  (post : Unit) (Rc : xH → Nat → Nat → Nat → Nat → Nat → Int32 → Prop) (K131 : xH → Nat → Nat → Prop) (K215 : xH → Nat → Nat → Prop) (K239 : xH → Nat → Nat → Prop) (K266 : xH → Nat → Nat → Prop) (K283 : xH → Nat → Nat → Prop) (K334 : xH → Nat → Nat → Prop) (K351 : xH → Nat → Nat → Prop) (K414 : xH → Nat → Nat → Prop) (K431 : xH → Nat → Nat → Prop) (K506 : xH → Nat → Nat → Prop) (K523 : xH → Nat → Nat → Prop) (K610 : xH → Nat → Nat → Prop) (K627 : xH → Nat → Nat → Prop) (K702 : xH → Nat → Nat → Prop) (K718 : xH → Nat → Nat → Prop) (K805 : xH → Nat → Nat → Prop) (K822 : xH → Nat → Nat → Prop) (K850 : xH → Nat → Nat → Prop) (K858 : xH → Nat → Nat → Prop)
    (hRc : (∀ (h : xH) (kc : Nat) (ks : Nat) (x1 : Nat) (x2 : Nat) (x3 : Nat) (x4 : Int32) (H : Heap) (locs : List Loc) (ls : Array Slot) (nc ns : Nat), Rc h kc ks x1 x2 x3 x4 → x_I G (x_A hN s.heap.size) s.heap h H locs → nc + kc ≤ 950342 → ns + ks ≤ 6245077 → lv_has ls 8 [(0, .ref b), (1, .ref x1), (2, .ref x2), (3, .ref x3), (4, .int x4)] → W p l e (room_1) s m #[Value.ref b] below meth c H locs nc ns (lw_Z below #[Value.ref b] s) (F0 m 23 ls [])))
    (hK131 : (∀ (h : xH) (kc : Nat) (ks : Nat) (H : Heap) (locs : List Loc) (ls : Array Slot) (nc ns : Nat), K131 h kc ks → x_I G (x_A hN s.heap.size) s.heap h H locs → nc + kc ≤ 950342 → ns + ks ≤ 6245077 → lv_has ls 8 [(0, .ref b)] → W p l e (room_1) s m #[Value.ref b] below meth c H locs nc ns (lw_Z below #[Value.ref b] s) (F0 m 131 ls [])))
    (hK215 : (∀ (h : xH) (kc : Nat) (ks : Nat) (H : Heap) (locs : List Loc) (ls : Array Slot) (nc ns : Nat), K215 h kc ks → x_I G (x_A hN s.heap.size) s.heap h H locs → nc + kc ≤ 950342 → ns + ks ≤ 6245077 → lv_has ls 8 [(0, .ref b)] → W p l e (room_1) s m #[Value.ref b] below meth c H locs nc ns (lw_Z below #[Value.ref b] s) (F0 m 215 ls [])))
    (hK239 : (∀ (h : xH) (kc : Nat) (ks : Nat) (H : Heap) (locs : List Loc) (ls : Array Slot) (nc ns : Nat), K239 h kc ks → x_I G (x_A hN s.heap.size) s.heap h H locs → nc + kc ≤ 950342 → ns + ks ≤ 6245077 → lv_has ls 8 [(0, .ref b)] → W p l e (room_1) s m #[Value.ref b] below meth c H locs nc ns (lw_Z below #[Value.ref b] s) (F0 m 239 ls [])))
    (hK266 : (∀ (h : xH) (kc : Nat) (ks : Nat) (H : Heap) (locs : List Loc) (ls : Array Slot) (nc ns : Nat), K266 h kc ks → x_I G (x_A hN s.heap.size) s.heap h H locs → nc + kc ≤ 950342 → ns + ks ≤ 6245077 → lv_has ls 8 [(0, .ref b)] → W p l e (room_1) s m #[Value.ref b] below meth c H locs nc ns (lw_Z below #[Value.ref b] s) (F0 m 266 ls [])))
    (hK283 : (∀ (h : xH) (kc : Nat) (ks : Nat) (H : Heap) (locs : List Loc) (ls : Array Slot) (nc ns : Nat), K283 h kc ks → x_I G (x_A hN s.heap.size) s.heap h H locs → nc + kc ≤ 950342 → ns + ks ≤ 6245077 → lv_has ls 8 [(0, .ref b)] → W p l e (room_1) s m #[Value.ref b] below meth c H locs nc ns (lw_Z below #[Value.ref b] s) (F0 m 283 ls [])))
    (hK334 : (∀ (h : xH) (kc : Nat) (ks : Nat) (H : Heap) (locs : List Loc) (ls : Array Slot) (nc ns : Nat), K334 h kc ks → x_I G (x_A hN s.heap.size) s.heap h H locs → nc + kc ≤ 950342 → ns + ks ≤ 6245077 → lv_has ls 8 [(0, .ref b)] → W p l e (room_1) s m #[Value.ref b] below meth c H locs nc ns (lw_Z below #[Value.ref b] s) (F0 m 334 ls [])))
    (hK351 : (∀ (h : xH) (kc : Nat) (ks : Nat) (H : Heap) (locs : List Loc) (ls : Array Slot) (nc ns : Nat), K351 h kc ks → x_I G (x_A hN s.heap.size) s.heap h H locs → nc + kc ≤ 950342 → ns + ks ≤ 6245077 → lv_has ls 8 [(0, .ref b)] → W p l e (room_1) s m #[Value.ref b] below meth c H locs nc ns (lw_Z below #[Value.ref b] s) (F0 m 351 ls [])))
    (hK414 : (∀ (h : xH) (kc : Nat) (ks : Nat) (H : Heap) (locs : List Loc) (ls : Array Slot) (nc ns : Nat), K414 h kc ks → x_I G (x_A hN s.heap.size) s.heap h H locs → nc + kc ≤ 950342 → ns + ks ≤ 6245077 → lv_has ls 8 [(0, .ref b)] → W p l e (room_1) s m #[Value.ref b] below meth c H locs nc ns (lw_Z below #[Value.ref b] s) (F0 m 414 ls [])))
    (hK431 : (∀ (h : xH) (kc : Nat) (ks : Nat) (H : Heap) (locs : List Loc) (ls : Array Slot) (nc ns : Nat), K431 h kc ks → x_I G (x_A hN s.heap.size) s.heap h H locs → nc + kc ≤ 950342 → ns + ks ≤ 6245077 → lv_has ls 8 [(0, .ref b)] → W p l e (room_1) s m #[Value.ref b] below meth c H locs nc ns (lw_Z below #[Value.ref b] s) (F0 m 431 ls [])))
    (hK506 : (∀ (h : xH) (kc : Nat) (ks : Nat) (H : Heap) (locs : List Loc) (ls : Array Slot) (nc ns : Nat), K506 h kc ks → x_I G (x_A hN s.heap.size) s.heap h H locs → nc + kc ≤ 950342 → ns + ks ≤ 6245077 → lv_has ls 8 [(0, .ref b)] → W p l e (room_1) s m #[Value.ref b] below meth c H locs nc ns (lw_Z below #[Value.ref b] s) (F0 m 506 ls [])))
    (hK523 : (∀ (h : xH) (kc : Nat) (ks : Nat) (H : Heap) (locs : List Loc) (ls : Array Slot) (nc ns : Nat), K523 h kc ks → x_I G (x_A hN s.heap.size) s.heap h H locs → nc + kc ≤ 950342 → ns + ks ≤ 6245077 → lv_has ls 8 [(0, .ref b)] → W p l e (room_1) s m #[Value.ref b] below meth c H locs nc ns (lw_Z below #[Value.ref b] s) (F0 m 523 ls [])))
    (hK610 : (∀ (h : xH) (kc : Nat) (ks : Nat) (H : Heap) (locs : List Loc) (ls : Array Slot) (nc ns : Nat), K610 h kc ks → x_I G (x_A hN s.heap.size) s.heap h H locs → nc + kc ≤ 950342 → ns + ks ≤ 6245077 → lv_has ls 8 [(0, .ref b)] → W p l e (room_1) s m #[Value.ref b] below meth c H locs nc ns (lw_Z below #[Value.ref b] s) (F0 m 610 ls [])))
    (hK627 : (∀ (h : xH) (kc : Nat) (ks : Nat) (H : Heap) (locs : List Loc) (ls : Array Slot) (nc ns : Nat), K627 h kc ks → x_I G (x_A hN s.heap.size) s.heap h H locs → nc + kc ≤ 950342 → ns + ks ≤ 6245077 → lv_has ls 8 [(0, .ref b)] → W p l e (room_1) s m #[Value.ref b] below meth c H locs nc ns (lw_Z below #[Value.ref b] s) (F0 m 627 ls [])))
    (hK702 : (∀ (h : xH) (kc : Nat) (ks : Nat) (H : Heap) (locs : List Loc) (ls : Array Slot) (nc ns : Nat), K702 h kc ks → x_I G (x_A hN s.heap.size) s.heap h H locs → nc + kc ≤ 950342 → ns + ks ≤ 6245077 → lv_has ls 8 [(0, .ref b)] → W p l e (room_1) s m #[Value.ref b] below meth c H locs nc ns (lw_Z below #[Value.ref b] s) (F0 m 702 ls [])))
    (hK718 : (∀ (h : xH) (kc : Nat) (ks : Nat) (H : Heap) (locs : List Loc) (ls : Array Slot) (nc ns : Nat), K718 h kc ks → x_I G (x_A hN s.heap.size) s.heap h H locs → nc + kc ≤ 950342 → ns + ks ≤ 6245077 → lv_has ls 8 [(0, .ref b)] → W p l e (room_1) s m #[Value.ref b] below meth c H locs nc ns (lw_Z below #[Value.ref b] s) (F0 m 718 ls [])))
    (hK805 : (∀ (h : xH) (kc : Nat) (ks : Nat) (H : Heap) (locs : List Loc) (ls : Array Slot) (nc ns : Nat), K805 h kc ks → x_I G (x_A hN s.heap.size) s.heap h H locs → nc + kc ≤ 950342 → ns + ks ≤ 6245077 → lv_has ls 8 [(0, .ref b)] → W p l e (room_1) s m #[Value.ref b] below meth c H locs nc ns (lw_Z below #[Value.ref b] s) (F0 m 805 ls [])))
    (hK822 : (∀ (h : xH) (kc : Nat) (ks : Nat) (H : Heap) (locs : List Loc) (ls : Array Slot) (nc ns : Nat), K822 h kc ks → x_I G (x_A hN s.heap.size) s.heap h H locs → nc + kc ≤ 950342 → ns + ks ≤ 6245077 → lv_has ls 8 [(0, .ref b)] → W p l e (room_1) s m #[Value.ref b] below meth c H locs nc ns (lw_Z below #[Value.ref b] s) (F0 m 822 ls [])))
    (hK850 : (∀ (h : xH) (kc : Nat) (ks : Nat) (H : Heap) (locs : List Loc) (ls : Array Slot) (nc ns : Nat), K850 h kc ks → x_I G (x_A hN s.heap.size) s.heap h H locs → nc + kc ≤ 950342 → ns + ks ≤ 6245077 → lv_has ls 8 [(0, .ref b)] → W p l e (room_1) s m #[Value.ref b] below meth c H locs nc ns (lw_Z below #[Value.ref b] s) (F0 m 850 ls [])))
    (hK858 : (∀ (h : xH) (kc : Nat) (ks : Nat) (H : Heap) (locs : List Loc) (ls : Array Slot) (nc ns : Nat), K858 h kc ks → x_I G (x_A hN s.heap.size) s.heap h H locs → nc + kc ≤ 950342 → ns + ks ≤ 6245077 → lv_has ls 8 [(0, .ref b)] → W p l e (room_1) s m #[Value.ref b] below meth c H locs nc ns (lw_Z below #[Value.ref b] s) (F0 m 858 ls [])))
    (h : xH) (kc : Nat) (ks : Nat) (x1 : Nat) (x2 : Nat) (x3 : Nat) (x4 : Int32) (H : Heap) (locs : List Loc) (ls : Array Slot) (nc ns : Nat) (hw : wj_L_law_720 L xs post Rc K131 K215 K239 K266 K283 K334 K351 K414 K431 K506 K523 K610 K627 K702 K718 K805 K822 K850 K858 h kc ks x1 x2 x3 x4) (hI : x_I G (x_A hN s.heap.size) s.heap h H locs) (hkc : nc + kc ≤ 950342) (hks : ns + ks ≤ 6245077) (hl : lv_has ls 8 [(0, .ref b), (1, .ref x1), (2, .ref x2), (3, .ref x3), (4, .int x4)]) : W p l e (room_1) s m #[Value.ref b] below meth c H locs nc ns (lw_Z below #[Value.ref b] s) (F0 m 720 ls []) := by
  obtain ⟨hx, hb, hr, hml, hown, hg, hlocks, hK, hZ, hC, hst, hX, hbl, hbA⟩ := id C
  unfold wj_L_law_720 at hw
  refine lv_goto (tgt := 852) hx hb dL_law_720 (by decide) ?_
  exact mj_L_law_852 C  post _ _ _ _ _ _ _ _ _ _ _ _ _ _ _ _ _ _ _ _ (hRc) hK131 hK215 hK239 hK266 hK283 hK334 hK351 hK414 hK431 hK506 hK523 hK610 hK627 hK702 hK718 hK805 hK822 hK850 hK858 _ _ _ _ _ _ _ _ _ _ _ _ hw hI (by omega) (by omega) (lv_sub hl [0, 1, 2, 3, 4] rfl)
set_option maxHeartbeats 4000000 in
set_option maxRecDepth 100000 in
theorem mj_L_law_824 (C : CL p l s m meth c G b L xs)  (post : Unit) (Rc : xH → Nat → Nat → Nat → Nat → Nat → Int32 → Prop) (K131 : xH → Nat → Nat → Prop) (K215 : xH → Nat → Nat → Prop) (K239 : xH → Nat → Nat → Prop) (K266 : xH → Nat → Nat → Prop) (K283 : xH → Nat → Nat → Prop) (K334 : xH → Nat → Nat → Prop) (K351 : xH → Nat → Nat → Prop) (K414 : xH → Nat → Nat → Prop) (K431 : xH → Nat → Nat → Prop) (K506 : xH → Nat → Nat → Prop) (K523 : xH → Nat → Nat → Prop) (K610 : xH → Nat → Nat → Prop) (K627 : xH → Nat → Nat → Prop) (K702 : xH → Nat → Nat → Prop) (K718 : xH → Nat → Nat → Prop) (K805 : xH → Nat → Nat → Prop) (K822 : xH → Nat → Nat → Prop) (K850 : xH → Nat → Nat → Prop) (K858 : xH → Nat → Nat → Prop)
    (hRc : (∀ (h : xH) (kc : Nat) (ks : Nat) (x1 : Nat) (x2 : Nat) (x3 : Nat) (x4 : Int32) (H : Heap) (locs : List Loc) (ls : Array Slot) (nc ns : Nat), Rc h kc ks x1 x2 x3 x4 → x_I G (x_A hN s.heap.size) s.heap h H locs → nc + kc ≤ 950342 → ns + ks ≤ 6245077 → lv_has ls 8 [(0, .ref b), (1, .ref x1), (2, .ref x2), (3, .ref x3), (4, .int x4)] → W p l e (room_1) s m #[Value.ref b] below meth c H locs nc ns (lw_Z below #[Value.ref b] s) (F0 m 23 ls [])))
    (hK131 : (∀ (h : xH) (kc : Nat) (ks : Nat) (H : Heap) (locs : List Loc) (ls : Array Slot) (nc ns : Nat), K131 h kc ks → x_I G (x_A hN s.heap.size) s.heap h H locs → nc + kc ≤ 950342 → ns + ks ≤ 6245077 → lv_has ls 8 [(0, .ref b)] → W p l e (room_1) s m #[Value.ref b] below meth c H locs nc ns (lw_Z below #[Value.ref b] s) (F0 m 131 ls [])))
    (hK215 : (∀ (h : xH) (kc : Nat) (ks : Nat) (H : Heap) (locs : List Loc) (ls : Array Slot) (nc ns : Nat), K215 h kc ks → x_I G (x_A hN s.heap.size) s.heap h H locs → nc + kc ≤ 950342 → ns + ks ≤ 6245077 → lv_has ls 8 [(0, .ref b)] → W p l e (room_1) s m #[Value.ref b] below meth c H locs nc ns (lw_Z below #[Value.ref b] s) (F0 m 215 ls [])))
    (hK239 : (∀ (h : xH) (kc : Nat) (ks : Nat) (H : Heap) (locs : List Loc) (ls : Array Slot) (nc ns : Nat), K239 h kc ks → x_I G (x_A hN s.heap.size) s.heap h H locs → nc + kc ≤ 950342 → ns + ks ≤ 6245077 → lv_has ls 8 [(0, .ref b)] → W p l e (room_1) s m #[Value.ref b] below meth c H locs nc ns (lw_Z below #[Value.ref b] s) (F0 m 239 ls [])))
    (hK266 : (∀ (h : xH) (kc : Nat) (ks : Nat) (H : Heap) (locs : List Loc) (ls : Array Slot) (nc ns : Nat), K266 h kc ks → x_I G (x_A hN s.heap.size) s.heap h H locs → nc + kc ≤ 950342 → ns + ks ≤ 6245077 → lv_has ls 8 [(0, .ref b)] → W p l e (room_1) s m #[Value.ref b] below meth c H locs nc ns (lw_Z below #[Value.ref b] s) (F0 m 266 ls [])))
    (hK283 : (∀ (h : xH) (kc : Nat) (ks : Nat) (H : Heap) (locs : List Loc) (ls : Array Slot) (nc ns : Nat), K283 h kc ks → x_I G (x_A hN s.heap.size) s.heap h H locs → nc + kc ≤ 950342 → ns + ks ≤ 6245077 → lv_has ls 8 [(0, .ref b)] → W p l e (room_1) s m #[Value.ref b] below meth c H locs nc ns (lw_Z below #[Value.ref b] s) (F0 m 283 ls [])))
    (hK334 : (∀ (h : xH) (kc : Nat) (ks : Nat) (H : Heap) (locs : List Loc) (ls : Array Slot) (nc ns : Nat), K334 h kc ks → x_I G (x_A hN s.heap.size) s.heap h H locs → nc + kc ≤ 950342 → ns + ks ≤ 6245077 → lv_has ls 8 [(0, .ref b)] → W p l e (room_1) s m #[Value.ref b] below meth c H locs nc ns (lw_Z below #[Value.ref b] s) (F0 m 334 ls [])))
    (hK351 : (∀ (h : xH) (kc : Nat) (ks : Nat) (H : Heap) (locs : List Loc) (ls : Array Slot) (nc ns : Nat), K351 h kc ks → x_I G (x_A hN s.heap.size) s.heap h H locs → nc + kc ≤ 950342 → ns + ks ≤ 6245077 → lv_has ls 8 [(0, .ref b)] → W p l e (room_1) s m #[Value.ref b] below meth c H locs nc ns (lw_Z below #[Value.ref b] s) (F0 m 351 ls [])))
    (hK414 : (∀ (h : xH) (kc : Nat) (ks : Nat) (H : Heap) (locs : List Loc) (ls : Array Slot) (nc ns : Nat), K414 h kc ks → x_I G (x_A hN s.heap.size) s.heap h H locs → nc + kc ≤ 950342 → ns + ks ≤ 6245077 → lv_has ls 8 [(0, .ref b)] → W p l e (room_1) s m #[Value.ref b] below meth c H locs nc ns (lw_Z below #[Value.ref b] s) (F0 m 414 ls [])))
    (hK431 : (∀ (h : xH) (kc : Nat) (ks : Nat) (H : Heap) (locs : List Loc) (ls : Array Slot) (nc ns : Nat), K431 h kc ks → x_I G (x_A hN s.heap.size) s.heap h H locs → nc + kc ≤ 950342 → ns + ks ≤ 6245077 → lv_has ls 8 [(0, .ref b)] → W p l e (room_1) s m #[Value.ref b] below meth c H locs nc ns (lw_Z below #[Value.ref b] s) (F0 m 431 ls [])))
    (hK506 : (∀ (h : xH) (kc : Nat) (ks : Nat) (H : Heap) (locs : List Loc) (ls : Array Slot) (nc ns : Nat), K506 h kc ks → x_I G (x_A hN s.heap.size) s.heap h H locs → nc + kc ≤ 950342 → ns + ks ≤ 6245077 → lv_has ls 8 [(0, .ref b)] → W p l e (room_1) s m #[Value.ref b] below meth c H locs nc ns (lw_Z below #[Value.ref b] s) (F0 m 506 ls [])))
    (hK523 : (∀ (h : xH) (kc : Nat) (ks : Nat) (H : Heap) (locs : List Loc) (ls : Array Slot) (nc ns : Nat), K523 h kc ks → x_I G (x_A hN s.heap.size) s.heap h H locs → nc + kc ≤ 950342 → ns + ks ≤ 6245077 → lv_has ls 8 [(0, .ref b)] → W p l e (room_1) s m #[Value.ref b] below meth c H locs nc ns (lw_Z below #[Value.ref b] s) (F0 m 523 ls [])))
    (hK610 : (∀ (h : xH) (kc : Nat) (ks : Nat) (H : Heap) (locs : List Loc) (ls : Array Slot) (nc ns : Nat), K610 h kc ks → x_I G (x_A hN s.heap.size) s.heap h H locs → nc + kc ≤ 950342 → ns + ks ≤ 6245077 → lv_has ls 8 [(0, .ref b)] → W p l e (room_1) s m #[Value.ref b] below meth c H locs nc ns (lw_Z below #[Value.ref b] s) (F0 m 610 ls [])))
    (hK627 : (∀ (h : xH) (kc : Nat) (ks : Nat) (H : Heap) (locs : List Loc) (ls : Array Slot) (nc ns : Nat), K627 h kc ks → x_I G (x_A hN s.heap.size) s.heap h H locs → nc + kc ≤ 950342 → ns + ks ≤ 6245077 → lv_has ls 8 [(0, .ref b)] → W p l e (room_1) s m #[Value.ref b] below meth c H locs nc ns (lw_Z below #[Value.ref b] s) (F0 m 627 ls [])))
    (hK702 : (∀ (h : xH) (kc : Nat) (ks : Nat) (H : Heap) (locs : List Loc) (ls : Array Slot) (nc ns : Nat), K702 h kc ks → x_I G (x_A hN s.heap.size) s.heap h H locs → nc + kc ≤ 950342 → ns + ks ≤ 6245077 → lv_has ls 8 [(0, .ref b)] → W p l e (room_1) s m #[Value.ref b] below meth c H locs nc ns (lw_Z below #[Value.ref b] s) (F0 m 702 ls [])))
    (hK718 : (∀ (h : xH) (kc : Nat) (ks : Nat) (H : Heap) (locs : List Loc) (ls : Array Slot) (nc ns : Nat), K718 h kc ks → x_I G (x_A hN s.heap.size) s.heap h H locs → nc + kc ≤ 950342 → ns + ks ≤ 6245077 → lv_has ls 8 [(0, .ref b)] → W p l e (room_1) s m #[Value.ref b] below meth c H locs nc ns (lw_Z below #[Value.ref b] s) (F0 m 718 ls [])))
    (hK805 : (∀ (h : xH) (kc : Nat) (ks : Nat) (H : Heap) (locs : List Loc) (ls : Array Slot) (nc ns : Nat), K805 h kc ks → x_I G (x_A hN s.heap.size) s.heap h H locs → nc + kc ≤ 950342 → ns + ks ≤ 6245077 → lv_has ls 8 [(0, .ref b)] → W p l e (room_1) s m #[Value.ref b] below meth c H locs nc ns (lw_Z below #[Value.ref b] s) (F0 m 805 ls [])))
    (hK822 : (∀ (h : xH) (kc : Nat) (ks : Nat) (H : Heap) (locs : List Loc) (ls : Array Slot) (nc ns : Nat), K822 h kc ks → x_I G (x_A hN s.heap.size) s.heap h H locs → nc + kc ≤ 950342 → ns + ks ≤ 6245077 → lv_has ls 8 [(0, .ref b)] → W p l e (room_1) s m #[Value.ref b] below meth c H locs nc ns (lw_Z below #[Value.ref b] s) (F0 m 822 ls [])))
    (hK850 : (∀ (h : xH) (kc : Nat) (ks : Nat) (H : Heap) (locs : List Loc) (ls : Array Slot) (nc ns : Nat), K850 h kc ks → x_I G (x_A hN s.heap.size) s.heap h H locs → nc + kc ≤ 950342 → ns + ks ≤ 6245077 → lv_has ls 8 [(0, .ref b)] → W p l e (room_1) s m #[Value.ref b] below meth c H locs nc ns (lw_Z below #[Value.ref b] s) (F0 m 850 ls [])))
    (hK858 : (∀ (h : xH) (kc : Nat) (ks : Nat) (H : Heap) (locs : List Loc) (ls : Array Slot) (nc ns : Nat), K858 h kc ks → x_I G (x_A hN s.heap.size) s.heap h H locs → nc + kc ≤ 950342 → ns + ks ≤ 6245077 → lv_has ls 8 [(0, .ref b)] → W p l e (room_1) s m #[Value.ref b] below meth c H locs nc ns (lw_Z below #[Value.ref b] s) (F0 m 858 ls [])))
    (h : xH) (kc : Nat) (ks : Nat) (x1 : Nat) (x2 : Nat) (x3 : Nat) (x4 : Int32) (H : Heap) (locs : List Loc) (ls : Array Slot) (nc ns : Nat) (hw : wj_L_law_824 L xs post Rc K131 K215 K239 K266 K283 K334 K351 K414 K431 K506 K523 K610 K627 K702 K718 K805 K822 K850 K858 h kc ks x1 x2 x3 x4) (hI : x_I G (x_A hN s.heap.size) s.heap h H locs) (hkc : nc + kc ≤ 950342) (hks : ns + ks ≤ 6245077) (hl : lv_has ls 8 [(0, .ref b), (1, .ref x1), (2, .ref x2), (3, .ref x3), (4, .int x4)]) : W p l e (room_1) s m #[Value.ref b] below meth c H locs nc ns (lw_Z below #[Value.ref b] s) (F0 m 824 ls []) := by
  obtain ⟨hx, hb, hr, hml, hown, hg, hlocks, hK, hZ, hC, hst, hX, hbl, hbA⟩ := id C
  unfold wj_L_law_824 at hw
  refine lv_goto (tgt := 852) hx hb dL_law_824 (by decide) ?_
  exact mj_L_law_852 C  post _ _ _ _ _ _ _ _ _ _ _ _ _ _ _ _ _ _ _ _ (hRc) hK131 hK215 hK239 hK266 hK283 hK334 hK351 hK414 hK431 hK506 hK523 hK610 hK627 hK702 hK718 hK805 hK822 hK850 hK858 _ _ _ _ _ _ _ _ _ _ _ _ hw hI (by omega) (by omega) (lv_sub hl [0, 1, 2, 3, 4] rfl)
set_option maxHeartbeats 4000000 in
set_option maxRecDepth 100000 in
theorem ml_L_law_23 (C : CL p l s m meth c G b L xs)  (post : Unit) (K131 : xH → Nat → Nat → Prop) (K215 : xH → Nat → Nat → Prop) (K239 : xH → Nat → Nat → Prop) (K266 : xH → Nat → Nat → Prop) (K283 : xH → Nat → Nat → Prop) (K334 : xH → Nat → Nat → Prop) (K351 : xH → Nat → Nat → Prop) (K414 : xH → Nat → Nat → Prop) (K431 : xH → Nat → Nat → Prop) (K506 : xH → Nat → Nat → Prop) (K523 : xH → Nat → Nat → Prop) (K610 : xH → Nat → Nat → Prop) (K627 : xH → Nat → Nat → Prop) (K702 : xH → Nat → Nat → Prop) (K718 : xH → Nat → Nat → Prop) (K805 : xH → Nat → Nat → Prop) (K822 : xH → Nat → Nat → Prop) (K850 : xH → Nat → Nat → Prop) (K858 : xH → Nat → Nat → Prop)
    (hK131 : (∀ (h : xH) (kc : Nat) (ks : Nat) (H : Heap) (locs : List Loc) (ls : Array Slot) (nc ns : Nat), K131 h kc ks → x_I G (x_A hN s.heap.size) s.heap h H locs → nc + kc ≤ 950342 → ns + ks ≤ 6245077 → lv_has ls 8 [(0, .ref b)] → W p l e (room_1) s m #[Value.ref b] below meth c H locs nc ns (lw_Z below #[Value.ref b] s) (F0 m 131 ls [])))
    (hK215 : (∀ (h : xH) (kc : Nat) (ks : Nat) (H : Heap) (locs : List Loc) (ls : Array Slot) (nc ns : Nat), K215 h kc ks → x_I G (x_A hN s.heap.size) s.heap h H locs → nc + kc ≤ 950342 → ns + ks ≤ 6245077 → lv_has ls 8 [(0, .ref b)] → W p l e (room_1) s m #[Value.ref b] below meth c H locs nc ns (lw_Z below #[Value.ref b] s) (F0 m 215 ls [])))
    (hK239 : (∀ (h : xH) (kc : Nat) (ks : Nat) (H : Heap) (locs : List Loc) (ls : Array Slot) (nc ns : Nat), K239 h kc ks → x_I G (x_A hN s.heap.size) s.heap h H locs → nc + kc ≤ 950342 → ns + ks ≤ 6245077 → lv_has ls 8 [(0, .ref b)] → W p l e (room_1) s m #[Value.ref b] below meth c H locs nc ns (lw_Z below #[Value.ref b] s) (F0 m 239 ls [])))
    (hK266 : (∀ (h : xH) (kc : Nat) (ks : Nat) (H : Heap) (locs : List Loc) (ls : Array Slot) (nc ns : Nat), K266 h kc ks → x_I G (x_A hN s.heap.size) s.heap h H locs → nc + kc ≤ 950342 → ns + ks ≤ 6245077 → lv_has ls 8 [(0, .ref b)] → W p l e (room_1) s m #[Value.ref b] below meth c H locs nc ns (lw_Z below #[Value.ref b] s) (F0 m 266 ls [])))
    (hK283 : (∀ (h : xH) (kc : Nat) (ks : Nat) (H : Heap) (locs : List Loc) (ls : Array Slot) (nc ns : Nat), K283 h kc ks → x_I G (x_A hN s.heap.size) s.heap h H locs → nc + kc ≤ 950342 → ns + ks ≤ 6245077 → lv_has ls 8 [(0, .ref b)] → W p l e (room_1) s m #[Value.ref b] below meth c H locs nc ns (lw_Z below #[Value.ref b] s) (F0 m 283 ls [])))
    (hK334 : (∀ (h : xH) (kc : Nat) (ks : Nat) (H : Heap) (locs : List Loc) (ls : Array Slot) (nc ns : Nat), K334 h kc ks → x_I G (x_A hN s.heap.size) s.heap h H locs → nc + kc ≤ 950342 → ns + ks ≤ 6245077 → lv_has ls 8 [(0, .ref b)] → W p l e (room_1) s m #[Value.ref b] below meth c H locs nc ns (lw_Z below #[Value.ref b] s) (F0 m 334 ls [])))
    (hK351 : (∀ (h : xH) (kc : Nat) (ks : Nat) (H : Heap) (locs : List Loc) (ls : Array Slot) (nc ns : Nat), K351 h kc ks → x_I G (x_A hN s.heap.size) s.heap h H locs → nc + kc ≤ 950342 → ns + ks ≤ 6245077 → lv_has ls 8 [(0, .ref b)] → W p l e (room_1) s m #[Value.ref b] below meth c H locs nc ns (lw_Z below #[Value.ref b] s) (F0 m 351 ls [])))
    (hK414 : (∀ (h : xH) (kc : Nat) (ks : Nat) (H : Heap) (locs : List Loc) (ls : Array Slot) (nc ns : Nat), K414 h kc ks → x_I G (x_A hN s.heap.size) s.heap h H locs → nc + kc ≤ 950342 → ns + ks ≤ 6245077 → lv_has ls 8 [(0, .ref b)] → W p l e (room_1) s m #[Value.ref b] below meth c H locs nc ns (lw_Z below #[Value.ref b] s) (F0 m 414 ls [])))
    (hK431 : (∀ (h : xH) (kc : Nat) (ks : Nat) (H : Heap) (locs : List Loc) (ls : Array Slot) (nc ns : Nat), K431 h kc ks → x_I G (x_A hN s.heap.size) s.heap h H locs → nc + kc ≤ 950342 → ns + ks ≤ 6245077 → lv_has ls 8 [(0, .ref b)] → W p l e (room_1) s m #[Value.ref b] below meth c H locs nc ns (lw_Z below #[Value.ref b] s) (F0 m 431 ls [])))
    (hK506 : (∀ (h : xH) (kc : Nat) (ks : Nat) (H : Heap) (locs : List Loc) (ls : Array Slot) (nc ns : Nat), K506 h kc ks → x_I G (x_A hN s.heap.size) s.heap h H locs → nc + kc ≤ 950342 → ns + ks ≤ 6245077 → lv_has ls 8 [(0, .ref b)] → W p l e (room_1) s m #[Value.ref b] below meth c H locs nc ns (lw_Z below #[Value.ref b] s) (F0 m 506 ls [])))
    (hK523 : (∀ (h : xH) (kc : Nat) (ks : Nat) (H : Heap) (locs : List Loc) (ls : Array Slot) (nc ns : Nat), K523 h kc ks → x_I G (x_A hN s.heap.size) s.heap h H locs → nc + kc ≤ 950342 → ns + ks ≤ 6245077 → lv_has ls 8 [(0, .ref b)] → W p l e (room_1) s m #[Value.ref b] below meth c H locs nc ns (lw_Z below #[Value.ref b] s) (F0 m 523 ls [])))
    (hK610 : (∀ (h : xH) (kc : Nat) (ks : Nat) (H : Heap) (locs : List Loc) (ls : Array Slot) (nc ns : Nat), K610 h kc ks → x_I G (x_A hN s.heap.size) s.heap h H locs → nc + kc ≤ 950342 → ns + ks ≤ 6245077 → lv_has ls 8 [(0, .ref b)] → W p l e (room_1) s m #[Value.ref b] below meth c H locs nc ns (lw_Z below #[Value.ref b] s) (F0 m 610 ls [])))
    (hK627 : (∀ (h : xH) (kc : Nat) (ks : Nat) (H : Heap) (locs : List Loc) (ls : Array Slot) (nc ns : Nat), K627 h kc ks → x_I G (x_A hN s.heap.size) s.heap h H locs → nc + kc ≤ 950342 → ns + ks ≤ 6245077 → lv_has ls 8 [(0, .ref b)] → W p l e (room_1) s m #[Value.ref b] below meth c H locs nc ns (lw_Z below #[Value.ref b] s) (F0 m 627 ls [])))
    (hK702 : (∀ (h : xH) (kc : Nat) (ks : Nat) (H : Heap) (locs : List Loc) (ls : Array Slot) (nc ns : Nat), K702 h kc ks → x_I G (x_A hN s.heap.size) s.heap h H locs → nc + kc ≤ 950342 → ns + ks ≤ 6245077 → lv_has ls 8 [(0, .ref b)] → W p l e (room_1) s m #[Value.ref b] below meth c H locs nc ns (lw_Z below #[Value.ref b] s) (F0 m 702 ls [])))
    (hK718 : (∀ (h : xH) (kc : Nat) (ks : Nat) (H : Heap) (locs : List Loc) (ls : Array Slot) (nc ns : Nat), K718 h kc ks → x_I G (x_A hN s.heap.size) s.heap h H locs → nc + kc ≤ 950342 → ns + ks ≤ 6245077 → lv_has ls 8 [(0, .ref b)] → W p l e (room_1) s m #[Value.ref b] below meth c H locs nc ns (lw_Z below #[Value.ref b] s) (F0 m 718 ls [])))
    (hK805 : (∀ (h : xH) (kc : Nat) (ks : Nat) (H : Heap) (locs : List Loc) (ls : Array Slot) (nc ns : Nat), K805 h kc ks → x_I G (x_A hN s.heap.size) s.heap h H locs → nc + kc ≤ 950342 → ns + ks ≤ 6245077 → lv_has ls 8 [(0, .ref b)] → W p l e (room_1) s m #[Value.ref b] below meth c H locs nc ns (lw_Z below #[Value.ref b] s) (F0 m 805 ls [])))
    (hK822 : (∀ (h : xH) (kc : Nat) (ks : Nat) (H : Heap) (locs : List Loc) (ls : Array Slot) (nc ns : Nat), K822 h kc ks → x_I G (x_A hN s.heap.size) s.heap h H locs → nc + kc ≤ 950342 → ns + ks ≤ 6245077 → lv_has ls 8 [(0, .ref b)] → W p l e (room_1) s m #[Value.ref b] below meth c H locs nc ns (lw_Z below #[Value.ref b] s) (F0 m 822 ls [])))
    (hK850 : (∀ (h : xH) (kc : Nat) (ks : Nat) (H : Heap) (locs : List Loc) (ls : Array Slot) (nc ns : Nat), K850 h kc ks → x_I G (x_A hN s.heap.size) s.heap h H locs → nc + kc ≤ 950342 → ns + ks ≤ 6245077 → lv_has ls 8 [(0, .ref b)] → W p l e (room_1) s m #[Value.ref b] below meth c H locs nc ns (lw_Z below #[Value.ref b] s) (F0 m 850 ls [])))
    (hK858 : (∀ (h : xH) (kc : Nat) (ks : Nat) (H : Heap) (locs : List Loc) (ls : Array Slot) (nc ns : Nat), K858 h kc ks → x_I G (x_A hN s.heap.size) s.heap h H locs → nc + kc ≤ 950342 → ns + ks ≤ 6245077 → lv_has ls 8 [(0, .ref b)] → W p l e (room_1) s m #[Value.ref b] below meth c H locs nc ns (lw_Z below #[Value.ref b] s) (F0 m 858 ls []))) :
    ∀ (n : Nat) (h : xH) (kc : Nat) (ks : Nat) (x1 : Nat) (x2 : Nat) (x3 : Nat) (x4 : Int32) (H : Heap) (locs : List Loc) (ls : Array Slot) (nc ns : Nat), wl_L_law_23 L xs post K131 K215 K239 K266 K283 K334 K351 K414 K431 K506 K523 K610 K627 K702 K718 K805 K822 K850 K858 n h kc ks x1 x2 x3 x4 → x_I G (x_A hN s.heap.size) s.heap h H locs → nc + kc ≤ 950342 → ns + ks ≤ 6245077 → lv_has ls 8 [(0, .ref b), (1, .ref x1), (2, .ref x2), (3, .ref x3), (4, .int x4)] → W p l e (room_1) s m #[Value.ref b] below meth c H locs nc ns (lw_Z below #[Value.ref b] s) (F0 m 23 ls []) := by
  obtain ⟨hx, hb, hr, hml, hown, hg, hlocks, hK, hZ, hC, hst, hX, hbl, hbA⟩ := id C
  intro n
  induction n with
  | zero => intro h kc ks x1 x2 x3 x4 H locs ls nc ns hw; exact absurd hw id
  | succ n ih =>
    intro h kc ks x1 x2 x3 x4 H locs ls nc ns hw hI hkc hks hl
    refine lv_iload hx hb dL_law_23 (lv_at hl 4 rfl) ?_
    refine lv_aload_n hx hb dL_law_25 rfl (lv_at hl 0 rfl) ?_
    refine va_slen hx hb hX hbl hbA hI.2.2.1 dL_law_26 ?_
    refine lv_bipush (v := 6) hx hb dL_law_27 (by decide) ?_
    refine lv_isub hx hb dL_law_29 ?_
    refine lv_icmp_gt (tgt := 858) hx hb dL_law_30 (by decide) (fun hc30 => ?_) (fun hc30 => ?_)
    · have hw := hw.1 hc30
      exact hK858 _ _ _ _ _ _ _ _ hw hI (by omega) (by omega) (lv_sub hl [0] rfl)
    · have hw := hw.2 hc30
      refine lv_aload_n hx hb dL_law_33 rfl (lv_at hl 0 rfl) ?_
      refine lv_iload hx hb dL_law_34 (lv_at hl 4 rfl) ?_
      obtain ⟨hi36, hw⟩ := hw
      refine va_sld hx hb hX hbl hbA hI.2.2.1 hi36 dL_law_36 ?_
      refine lv_bipush (v := 15) hx hb dL_law_37 (by decide) ?_
      refine lv_iand hx hb dL_law_39 ?_
      rcases x_sw ((xs (x4 : Int32).toNatClampNeg) &&& 15) 0 10 with hsw | ⟨j9, hj9, hsw⟩
      · have hw := hw.1 hsw
        refine lv_tableOut (tgt := 852) hx hb dL_law_40 hsw (by decide) ?_
        exact mj_L_law_852 C  post _ _ _ _ _ _ _ _ _ _ _ _ _ _ _ _ _ _ _ _ (ih) hK131 hK215 hK239 hK266 hK283 hK334 hK351 hK414 hK431 hK506 hK523 hK610 hK627 hK702 hK718 hK805 hK822 hK850 hK858 _ _ _ _ _ _ _ _ _ _ _ _ hw hI (by omega) (by omega) (lv_sub hl [0, 1, 2, 3, 4] rfl)
      · have hw := hw.2
        match j9, hj9 with
        | 0, _ =>
          have hsw : ((xs (x4 : Int32).toNatClampNeg) &&& 15) = 0 := hsw
          have hw := hw.1 hsw
          refine lv_tableIn (tgt := 100) hx hb dL_law_40 (by rw [hsw]; decide) (by rw [hsw]; decide) (by rw [hsw]; rfl) (by decide) ?_
          refine lv_aload_n hx hb dL_law_100 rfl (lv_at hl 1 rfl) ?_
          refine lv_aload_n hx hb dL_law_101 rfl (lv_at hl 0 rfl) ?_
          refine lv_iload hx hb dL_law_102 (lv_at hl 4 rfl) ?_
          refine lv_iconst (v := 1) hx hb dL_law_104 (by decide) ?_
          refine lv_iadd hx hb dL_law_105 ?_
          obtain ⟨hi106, hw⟩ := hw
          refine va_sld hx hb hX hbl hbA hI.2.2.1 hi106 dL_law_106 ?_
          obtain ⟨mc_107, ms_107, hkc1, hks1, hw⟩ := hw
          refine x_ci (vx_runSW (As := [.ref x1, .int (xs ((x4 + 1) : Int32).toNatClampNeg)]) (rest := []) ⟨hx, hb, hml, hown, hg⟩ (m_L_begin l hst G h mc_107 ms_107 x1 (xs ((x4 + 1) : Int32).toNatClampNeg) _ hw H.size) (vx_cwSW 2 hg (x_gSW km_L_57 ks_L_begin kn_L (at_cw _ (by decide +kernel))) rfl rfl rfl (by decide +kernel) ⟨Nat.le_of_ble_eq_true rfl, Nat.le_of_ble_eq_true rfl⟩) ⟨x_blindw, x_prew hI hK hZ hC⟩ rfl rfl hl.1 rfl (lv_room (Nat.le_of_ble_eq_true rfl)) dL_law_107 ⟨show nc + mc_107 ≤ 950342 by omega, show ns + ms_107 ≤ 6245077 by omega⟩) hI (fun r_107 h_107 H locs hw hI => ?_)
          refine lv_istore (lv' := [(5, .int r_107), (0, .ref b), (1, .ref x1), (2, .ref x2), (3, .ref x3), (4, .int x4)]) hx hb dL_law_110 hl (by decide) rfl (fun ls hl => ?_)
          refine lv_aload_n hx hb dL_law_112 rfl (lv_at hl 3 rfl) ?_
          refine lv_aload_n hx hb dL_law_113 rfl (lv_at hl 1 rfl) ?_
          refine lv_iload hx hb dL_law_114 (lv_at hl 5 rfl) ?_
          refine lv_iconst (v := 1) hx hb dL_law_116 (by decide) ?_
          refine lv_iadd hx hb dL_law_117 ?_
          obtain ⟨hi118, hw⟩ := hw
          refine va_sld hx hb hX hbl hbA hI.2.2.1 hi118 dL_law_118 ?_
          obtain ⟨fs_119, he_119, hw⟩ := hw
          refine x_cv (va_runV (As := [.int (xs ((x4 + 1) : Int32).toNatClampNeg)]) (rest := []) ⟨hx, hb, hml, hown, hg⟩ (m_A7_begin l G h_107  x2 (xs ((x4 + 1) : Int32).toNatClampNeg) _ hw H.size) (cwV 1 hg (x_gV km_L_62 ki_X7_begin kz_X7_X7_begin kn_X7 kk_X7_begin) rfl rfl rfl (by decide +kernel) ⟨Nat.le_of_ble_eq_true rfl, Nat.le_of_ble_eq_true rfl⟩) ⟨x_blind, x_recv hI hK he_119 rfl rfl, x_pre hI hK⟩ rfl rfl hl.1 rfl (lv_room (Nat.le_of_ble_eq_true rfl)) dL_law_119 ⟨show nc + mc_107 + 0 ≤ 950342 by omega, show ns + ms_107 + 0 ≤ 6245077 by omega⟩) hI (fun h_119 H locs hw hI => ?_)
          refine lv_aload_n hx hb dL_law_122 rfl (lv_at hl 3 rfl) ?_
          obtain ⟨fs_123, he_123, hw⟩ := hw
          refine x_ci (va_runV (As := []) (rest := []) ⟨hx, hb, hml, hown, hg⟩ (m_A7_thrown l G h_119  x2 _ hw H.size) (cwV 0 hg (x_gV km_L_63 ki_X7_thrown kz_X7_X7_thrown kn_X7 kk_X7_thrown) rfl rfl rfl (by decide +kernel) ⟨Nat.le_of_ble_eq_true rfl, Nat.le_of_ble_eq_true rfl⟩) ⟨x_blind, x_recv hI hK he_123 rfl rfl, x_pre hI hK⟩ rfl rfl hl.1 rfl (lv_room (Nat.le_of_ble_eq_true rfl)) dL_law_123 ⟨show nc + mc_107 + 0 + 0 ≤ 950342 by omega, show ns + ms_107 + 0 + 0 ≤ 6245077 by omega⟩) hI (fun r_123 h_123 H locs hw hI => ?_)
          refine lv_iload hx hb dL_law_126 (lv_at hl 0 rfl) ?_
          refine lv_icmp_eq (tgt := 133) hx hb dL_law_128 (by decide) (fun hc128 => ?_) (fun hc128 => ?_)
          · have hw := hw.1 hc128
            refine lv_goto (tgt := 852) hx hb dL_law_133 (by decide) ?_
            exact mj_L_law_852 C  post _ _ _ _ _ _ _ _ _ _ _ _ _ _ _ _ _ _ _ _ (ih) hK131 hK215 hK239 hK266 hK283 hK334 hK351 hK414 hK431 hK506 hK523 hK610 hK627 hK702 hK718 hK805 hK822 hK850 hK858 _ _ _ _ _ _ _ _ _ _ _ _ hw hI (by omega) (by omega) (lv_sub hl [1, 2, 3, 4, 5] rfl)
          · have hw := hw.2 hc128
            exact hK131 _ _ _ _ _ _ _ _ hw hI (by omega) (by omega) (lv_sub hl [1] rfl)
        | 1, _ =>
          have hsw : ((xs (x4 : Int32).toNatClampNeg) &&& 15) = 1 := hsw
          have hw := hw.2.1 hsw
          refine lv_tableIn (tgt := 136) hx hb dL_law_40 (by rw [hsw]; decide) (by rw [hsw]; decide) (by rw [hsw]; rfl) (by decide) ?_
          refine lv_aload_n hx hb dL_law_136 rfl (lv_at hl 1 rfl) ?_
          refine lv_aload_n hx hb dL_law_137 rfl (lv_at hl 0 rfl) ?_
          refine lv_iload hx hb dL_law_138 (lv_at hl 4 rfl) ?_
          refine lv_iconst (v := 1) hx hb dL_law_140 (by decide) ?_
          refine lv_iadd hx hb dL_law_141 ?_
          obtain ⟨hi142, hw⟩ := hw
          refine va_sld hx hb hX hbl hbA hI.2.2.1 hi142 dL_law_142 ?_
          refine lv_aload_n hx hb dL_law_143 rfl (lv_at hl 0 rfl) ?_
          refine lv_iload hx hb dL_law_144 (lv_at hl 4 rfl) ?_
          refine lv_iconst (v := 2) hx hb dL_law_146 (by decide) ?_
          refine lv_iadd hx hb dL_law_147 ?_
          obtain ⟨hi148, hw⟩ := hw
          refine va_sld hx hb hX hbl hbA hI.2.2.1 hi148 dL_law_148 ?_
          refine lv_aload_n hx hb dL_law_149 rfl (lv_at hl 0 rfl) ?_
          refine lv_iload hx hb dL_law_150 (lv_at hl 4 rfl) ?_
          refine lv_iconst (v := 3) hx hb dL_law_152 (by decide) ?_
          refine lv_iadd hx hb dL_law_153 ?_
          obtain ⟨hi154, hw⟩ := hw
          refine va_sld hx hb hX hbl hbA hI.2.2.1 hi154 dL_law_154 ?_
          refine lv_aload_n hx hb dL_law_155 rfl (lv_at hl 0 rfl) ?_
          refine lv_iload hx hb dL_law_156 (lv_at hl 4 rfl) ?_
          refine lv_iconst (v := 4) hx hb dL_law_158 (by decide) ?_
          refine lv_iadd hx hb dL_law_159 ?_
          obtain ⟨hi160, hw⟩ := hw
          refine va_sld hx hb hX hbl hbA hI.2.2.1 hi160 dL_law_160 ?_
          refine lv_aload_n hx hb dL_law_161 rfl (lv_at hl 0 rfl) ?_
          refine lv_iload hx hb dL_law_162 (lv_at hl 4 rfl) ?_
          refine lv_iconst (v := 5) hx hb dL_law_164 (by decide) ?_
          refine lv_iadd hx hb dL_law_165 ?_
          obtain ⟨hi166, hw⟩ := hw
          refine va_sld hx hb hX hbl hbA hI.2.2.1 hi166 dL_law_166 ?_
          obtain ⟨mc_167, ms_167, hkc1, hks1, hw⟩ := hw
          refine x_ci (vx_runSW (As := [.ref x1, .int (xs ((x4 + 1) : Int32).toNatClampNeg), .int (xs ((x4 + 2) : Int32).toNatClampNeg), .int (xs ((x4 + 3) : Int32).toNatClampNeg), .int (xs ((x4 + 4) : Int32).toNatClampNeg), .int (xs ((x4 + 5) : Int32).toNatClampNeg)]) (rest := []) ⟨hx, hb, hml, hown, hg⟩ (m_L_set l hst G h mc_167 ms_167 x1 (xs ((x4 + 1) : Int32).toNatClampNeg) (xs ((x4 + 2) : Int32).toNatClampNeg) (xs ((x4 + 3) : Int32).toNatClampNeg) (xs ((x4 + 4) : Int32).toNatClampNeg) (xs ((x4 + 5) : Int32).toNatClampNeg) _ hw H.size) (vx_cwSW 6 hg (x_gSW km_L_66 ks_L_set kn_L (at_cw _ (by decide +kernel))) rfl rfl rfl (by decide +kernel) ⟨Nat.le_of_ble_eq_true rfl, Nat.le_of_ble_eq_true rfl⟩) ⟨x_blindw, x_prew hI hK hZ hC⟩ rfl rfl hl.1 rfl (lv_room (Nat.le_of_ble_eq_true rfl)) dL_law_167 ⟨show nc + mc_167 ≤ 950342 by omega, show ns + ms_167 ≤ 6245077 by omega⟩) hI (fun r_167 h_167 H locs hw hI => ?_)
          refine lv_istore (lv' := [(5, .int r_167), (0, .ref b), (1, .ref x1), (2, .ref x2), (3, .ref x3), (4, .int x4)]) hx hb dL_law_170 hl (by decide) rfl (fun ls hl => ?_)
          refine lv_aload_n hx hb dL_law_172 rfl (lv_at hl 3 rfl) ?_
          refine lv_aload_n hx hb dL_law_173 rfl (lv_at hl 1 rfl) ?_
          refine lv_iload hx hb dL_law_174 (lv_at hl 5 rfl) ?_
          refine lv_iconst (v := 1) hx hb dL_law_176 (by decide) ?_
          refine lv_iadd hx hb dL_law_177 ?_
          obtain ⟨hi178, hw⟩ := hw
          refine va_sld hx hb hX hbl hbA hI.2.2.1 hi178 dL_law_178 ?_
          refine lv_aload_n hx hb dL_law_179 rfl (lv_at hl 1 rfl) ?_
          refine lv_iload hx hb dL_law_180 (lv_at hl 5 rfl) ?_
          refine lv_iconst (v := 2) hx hb dL_law_182 (by decide) ?_
          refine lv_iadd hx hb dL_law_183 ?_
          obtain ⟨hi184, hw⟩ := hw
          refine va_sld hx hb hX hbl hbA hI.2.2.1 hi184 dL_law_184 ?_
          refine lv_aload_n hx hb dL_law_185 rfl (lv_at hl 1 rfl) ?_
          refine lv_iload hx hb dL_law_186 (lv_at hl 5 rfl) ?_
          refine lv_iconst (v := 3) hx hb dL_law_188 (by decide) ?_
          refine lv_iadd hx hb dL_law_189 ?_
          obtain ⟨hi190, hw⟩ := hw
          refine va_sld hx hb hX hbl hbA hI.2.2.1 hi190 dL_law_190 ?_
          refine lv_aload_n hx hb dL_law_191 rfl (lv_at hl 1 rfl) ?_
          refine lv_iload hx hb dL_law_192 (lv_at hl 5 rfl) ?_
          refine lv_iconst (v := 4) hx hb dL_law_194 (by decide) ?_
          refine lv_iadd hx hb dL_law_195 ?_
          obtain ⟨hi196, hw⟩ := hw
          refine va_sld hx hb hX hbl hbA hI.2.2.1 hi196 dL_law_196 ?_
          refine lv_aload_n hx hb dL_law_197 rfl (lv_at hl 1 rfl) ?_
          refine lv_iload hx hb dL_law_198 (lv_at hl 5 rfl) ?_
          refine lv_iconst (v := 5) hx hb dL_law_200 (by decide) ?_
          refine lv_iadd hx hb dL_law_201 ?_
          obtain ⟨hi202, hw⟩ := hw
          refine va_sld hx hb hX hbl hbA hI.2.2.1 hi202 dL_law_202 ?_
          obtain ⟨fs_203, he_203, hw⟩ := hw
          refine x_cv (va_runV (As := [.int (xs ((x4 + 1) : Int32).toNatClampNeg), .int (xs ((x4 + 2) : Int32).toNatClampNeg), .int (xs ((x4 + 3) : Int32).toNatClampNeg), .int (xs ((x4 + 4) : Int32).toNatClampNeg), .int (xs ((x4 + 5) : Int32).toNatClampNeg)]) (rest := []) ⟨hx, hb, hml, hown, hg⟩ (m_A7_set l G h_167  x2 (xs ((x4 + 1) : Int32).toNatClampNeg) (xs ((x4 + 2) : Int32).toNatClampNeg) (xs ((x4 + 3) : Int32).toNatClampNeg) (xs ((x4 + 4) : Int32).toNatClampNeg) (xs ((x4 + 5) : Int32).toNatClampNeg) _ hw H.size) (cwV 5 hg (x_gV km_L_69 ki_X7_set kz_X7_X7_set kn_X7 kk_X7_set) rfl rfl rfl (by decide +kernel) ⟨Nat.le_of_ble_eq_true rfl, Nat.le_of_ble_eq_true rfl⟩) ⟨x_blind, x_recv hI hK he_203 rfl rfl, x_pre hI hK⟩ rfl rfl hl.1 rfl (lv_room (Nat.le_of_ble_eq_true rfl)) dL_law_203 ⟨show nc + mc_167 + 0 ≤ 950342 by omega, show ns + ms_167 + 0 ≤ 6245077 by omega⟩) hI (fun h_203 H locs hw hI => ?_)
          refine lv_aload_n hx hb dL_law_206 rfl (lv_at hl 3 rfl) ?_
          obtain ⟨fs_207, he_207, hw⟩ := hw
          refine x_ci (va_runV (As := []) (rest := []) ⟨hx, hb, hml, hown, hg⟩ (m_A7_thrown l G h_203  x2 _ hw H.size) (cwV 0 hg (x_gV km_L_63 ki_X7_thrown kz_X7_X7_thrown kn_X7 kk_X7_thrown) rfl rfl rfl (by decide +kernel) ⟨Nat.le_of_ble_eq_true rfl, Nat.le_of_ble_eq_true rfl⟩) ⟨x_blind, x_recv hI hK he_207 rfl rfl, x_pre hI hK⟩ rfl rfl hl.1 rfl (lv_room (Nat.le_of_ble_eq_true rfl)) dL_law_207 ⟨show nc + mc_167 + 0 + 0 ≤ 950342 by omega, show ns + ms_167 + 0 + 0 ≤ 6245077 by omega⟩) hI (fun r_207 h_207 H locs hw hI => ?_)
          refine lv_iload hx hb dL_law_210 (lv_at hl 0 rfl) ?_
          refine lv_icmp_eq (tgt := 217) hx hb dL_law_212 (by decide) (fun hc212 => ?_) (fun hc212 => ?_)
          · have hw := hw.1 hc212
            refine lv_goto (tgt := 852) hx hb dL_law_217 (by decide) ?_
            exact mj_L_law_852 C  post _ _ _ _ _ _ _ _ _ _ _ _ _ _ _ _ _ _ _ _ (ih) hK131 hK215 hK239 hK266 hK283 hK334 hK351 hK414 hK431 hK506 hK523 hK610 hK627 hK702 hK718 hK805 hK822 hK850 hK858 _ _ _ _ _ _ _ _ _ _ _ _ hw hI (by omega) (by omega) (lv_sub hl [1, 2, 3, 4, 5] rfl)
          · have hw := hw.2 hc212
            exact hK215 _ _ _ _ _ _ _ _ hw hI (by omega) (by omega) (lv_sub hl [1] rfl)
        | 2, _ =>
          have hsw : ((xs (x4 : Int32).toNatClampNeg) &&& 15) = 2 := hsw
          have hw := hw.2.2.1 hsw
          refine lv_tableIn (tgt := 220) hx hb dL_law_40 (by rw [hsw]; decide) (by rw [hsw]; decide) (by rw [hsw]; rfl) (by decide) ?_
          refine lv_aload_n hx hb dL_law_220 rfl (lv_at hl 1 rfl) ?_
          obtain ⟨mc_221, ms_221, hkc1, hks1, hw⟩ := hw
          refine x_ci (vx_runSW (As := [.ref x1]) (rest := []) ⟨hx, hb, hml, hown, hg⟩ (m_L_start l hst G h mc_221 ms_221 x1 _ hw H.size) (vx_cwSW 1 hg (x_gSW km_L_70 ks_L_start kn_L (at_cw _ (by decide +kernel))) rfl rfl rfl (by decide +kernel) ⟨Nat.le_of_ble_eq_true rfl, Nat.le_of_ble_eq_true rfl⟩) ⟨x_blindw, x_prew hI hK hZ hC⟩ rfl rfl hl.1 rfl (lv_room (Nat.le_of_ble_eq_true rfl)) dL_law_221 ⟨show nc + mc_221 ≤ 950342 by omega, show ns + ms_221 ≤ 6245077 by omega⟩) hI (fun r_221 h_221 H locs hw hI => ?_)
          refine lv_istore (lv' := [(5, .int r_221), (0, .ref b), (1, .ref x1), (2, .ref x2), (3, .ref x3), (4, .int x4)]) hx hb dL_law_224 hl (by decide) rfl (fun ls hl => ?_)
          refine lv_aload_n hx hb dL_law_226 rfl (lv_at hl 3 rfl) ?_
          obtain ⟨fs_227, he_227, hw⟩ := hw
          refine x_cv (va_runV (As := []) (rest := []) ⟨hx, hb, hml, hown, hg⟩ (m_A7_start l G h_221  x2 _ hw H.size) (cwV 0 hg (x_gV km_L_73 ki_X7_start kz_X7_X7_start kn_X7 kk_X7_start) rfl rfl rfl (by decide +kernel) ⟨Nat.le_of_ble_eq_true rfl, Nat.le_of_ble_eq_true rfl⟩) ⟨x_blind, x_recv hI hK he_227 rfl rfl, x_pre hI hK⟩ rfl rfl hl.1 rfl (lv_room (Nat.le_of_ble_eq_true rfl)) dL_law_227 ⟨show nc + mc_221 + 0 ≤ 950342 by omega, show ns + ms_221 + 0 ≤ 6245077 by omega⟩) hI (fun h_227 H locs hw hI => ?_)
          refine lv_aload_n hx hb dL_law_230 rfl (lv_at hl 3 rfl) ?_
          obtain ⟨fs_231, he_231, hw⟩ := hw
          refine x_ci (va_runV (As := []) (rest := []) ⟨hx, hb, hml, hown, hg⟩ (m_A7_thrown l G h_227  x2 _ hw H.size) (cwV 0 hg (x_gV km_L_63 ki_X7_thrown kz_X7_X7_thrown kn_X7 kk_X7_thrown) rfl rfl rfl (by decide +kernel) ⟨Nat.le_of_ble_eq_true rfl, Nat.le_of_ble_eq_true rfl⟩) ⟨x_blind, x_recv hI hK he_231 rfl rfl, x_pre hI hK⟩ rfl rfl hl.1 rfl (lv_room (Nat.le_of_ble_eq_true rfl)) dL_law_231 ⟨show nc + mc_221 + 0 + 0 ≤ 950342 by omega, show ns + ms_221 + 0 + 0 ≤ 6245077 by omega⟩) hI (fun r_231 h_231 H locs hw hI => ?_)
          refine lv_iload hx hb dL_law_234 (lv_at hl 0 rfl) ?_
          refine lv_icmp_eq (tgt := 241) hx hb dL_law_236 (by decide) (fun hc236 => ?_) (fun hc236 => ?_)
          · have hw := hw.1 hc236
            refine lv_goto (tgt := 852) hx hb dL_law_241 (by decide) ?_
            exact mj_L_law_852 C  post _ _ _ _ _ _ _ _ _ _ _ _ _ _ _ _ _ _ _ _ (ih) hK131 hK215 hK239 hK266 hK283 hK334 hK351 hK414 hK431 hK506 hK523 hK610 hK627 hK702 hK718 hK805 hK822 hK850 hK858 _ _ _ _ _ _ _ _ _ _ _ _ hw hI (by omega) (by omega) (lv_sub hl [1, 2, 3, 4, 5] rfl)
          · have hw := hw.2 hc236
            exact hK239 _ _ _ _ _ _ _ _ hw hI (by omega) (by omega) (lv_sub hl [1] rfl)
        | 3, _ =>
          have hsw : ((xs (x4 : Int32).toNatClampNeg) &&& 15) = 3 := hsw
          have hw := hw.2.2.2.1 hsw
          refine lv_tableIn (tgt := 244) hx hb dL_law_40 (by rw [hsw]; decide) (by rw [hsw]; decide) (by rw [hsw]; rfl) (by decide) ?_
          refine lv_aload_n hx hb dL_law_244 rfl (lv_at hl 1 rfl) ?_
          refine lv_aload_n hx hb dL_law_245 rfl (lv_at hl 3 rfl) ?_
          obtain ⟨mc_246, ms_246, hkc1, hks1, hw⟩ := hw
          refine x_ci (vx_runSW (As := [.ref x1, .ref x3]) (rest := []) ⟨hx, hb, hml, hown, hg⟩ (m_L_predict l hst G h mc_246 ms_246 x1 x3 _ hw H.size) (vx_cwSW 2 hg (x_gSW km_L_74 ks_L_predict kn_L (at_cw _ (by decide +kernel))) rfl rfl rfl (by decide +kernel) ⟨Nat.le_of_ble_eq_true rfl, Nat.le_of_ble_eq_true rfl⟩) ⟨x_blindw, x_prew hI hK hZ hC⟩ rfl rfl hl.1 rfl (lv_room (Nat.le_of_ble_eq_true rfl)) dL_law_246 ⟨show nc + mc_246 ≤ 950342 by omega, show ns + ms_246 ≤ 6245077 by omega⟩) hI (fun r_246 h_246 H locs hw hI => ?_)
          refine lv_istore (lv' := [(5, .int r_246), (0, .ref b), (1, .ref x1), (2, .ref x2), (3, .ref x3), (4, .int x4)]) hx hb dL_law_249 hl (by decide) rfl (fun ls hl => ?_)
          refine lv_aload_n hx hb dL_law_251 rfl (lv_at hl 3 rfl) ?_
          obtain ⟨fs_252, he_252, hw⟩ := hw
          refine x_ci (va_runV (As := []) (rest := []) ⟨hx, hb, hml, hown, hg⟩ (m_A7_predict l G h_246  x2 _ hw H.size) (cwV 0 hg (x_gV km_L_77 ki_X7_predict kz_X7_X7_predict kn_X7 kk_X7_predict) rfl rfl rfl (by decide +kernel) ⟨Nat.le_of_ble_eq_true rfl, Nat.le_of_ble_eq_true rfl⟩) ⟨x_blind, x_recv hI hK he_252 rfl rfl, x_pre hI hK⟩ rfl rfl hl.1 rfl (lv_room (Nat.le_of_ble_eq_true rfl)) dL_law_252 ⟨show nc + mc_246 + 0 ≤ 950342 by omega, show ns + ms_246 + 0 ≤ 6245077 by omega⟩) hI (fun r_252 h_252 H locs hw hI => ?_)
          refine lv_istore (lv' := [(6, .int r_252), (5, .int r_246), (0, .ref b), (1, .ref x1), (2, .ref x2), (3, .ref x3), (4, .int x4)]) hx hb dL_law_255 hl (by decide) rfl (fun ls hl => ?_)
          refine lv_aload_n hx hb dL_law_257 rfl (lv_at hl 4 rfl) ?_
          obtain ⟨fs_258, he_258, hw⟩ := hw
          refine x_ci (va_runV (As := []) (rest := []) ⟨hx, hb, hml, hown, hg⟩ (m_A7_thrown l G h_252  x2 _ hw H.size) (cwV 0 hg (x_gV km_L_63 ki_X7_thrown kz_X7_X7_thrown kn_X7 kk_X7_thrown) rfl rfl rfl (by decide +kernel) ⟨Nat.le_of_ble_eq_true rfl, Nat.le_of_ble_eq_true rfl⟩) ⟨x_blind, x_recv hI hK he_258 rfl rfl, x_pre hI hK⟩ rfl rfl hl.1 rfl (lv_room (Nat.le_of_ble_eq_true rfl)) dL_law_258 ⟨show nc + mc_246 + 0 + 0 ≤ 950342 by omega, show ns + ms_246 + 0 + 0 ≤ 6245077 by omega⟩) hI (fun r_258 h_258 H locs hw hI => ?_)
          refine lv_iload hx hb dL_law_261 (lv_at hl 1 rfl) ?_
          refine lv_icmp_eq (tgt := 268) hx hb dL_law_263 (by decide) (fun hc263 => ?_) (fun hc263 => ?_)
          · have hw := hw.1 hc263
            refine lv_iload hx hb dL_law_268 (lv_at hl 1 rfl) ?_
            refine lv_if_ne (tgt := 285) hx hb dL_law_270 (by decide) (fun hc270 => ?_) (fun hc270 => ?_)
            · have hw := hw.1 hc270
              exact mj_L_law_285 C  post _ _ _ _ _ _ _ _ _ _ _ _ _ _ _ _ _ _ _ _ (ih) hK131 hK215 hK239 hK266 hK283 hK334 hK351 hK414 hK431 hK506 hK523 hK610 hK627 hK702 hK718 hK805 hK822 hK850 hK858 _ _ _ _ _ _ _ _ _ _ _ _ hw hI (by omega) (by omega) (lv_sub hl [2, 3, 4, 5, 6] rfl)
            · have hw := hw.2 hc270
              refine lv_aload_n hx hb dL_law_273 rfl (lv_at hl 5 rfl) ?_
              refine lv_iconst (v := 0) hx hb dL_law_274 (by decide) ?_
              obtain ⟨n_275, f_275, he_275, hw⟩ := hw
              obtain ⟨hi275, hw⟩ := hw
              refine x_lald hx hb hK hI he_275 hi275 dL_law_275 ?_
              refine lv_iload hx hb dL_law_276 (lv_at hl 0 rfl) ?_
              refine lv_i2l (v := (r_252 : Int32).toInt64) hx hb dL_law_278 rfl ?_
              refine W.lcmp hx hb dL_law_279 ?_
              refine lv_if_eq (tgt := 285) hx hb dL_law_280 (by decide) (fun hc280 => ?_) (fun hc280 => ?_)
              · have hw := hw.1 ((lg_cmp_eq _ _).mp hc280)
                exact mj_L_law_285 C  post _ _ _ _ _ _ _ _ _ _ _ _ _ _ _ _ _ _ _ _ (ih) hK131 hK215 hK239 hK266 hK283 hK334 hK351 hK414 hK431 hK506 hK523 hK610 hK627 hK702 hK718 hK805 hK822 hK850 hK858 _ _ _ _ _ _ _ _ _ _ _ _ hw hI (by omega) (by omega) (lv_sub hl [2, 3, 4, 5, 6] rfl)
              · have hw := hw.2 (fun z => hc280 ((lg_cmp_eq _ _).mpr z))
                exact hK283 _ _ _ _ _ _ _ _ hw hI (by omega) (by omega) (lv_sub hl [2] rfl)
          · have hw := hw.2 hc263
            exact hK266 _ _ _ _ _ _ _ _ hw hI (by omega) (by omega) (lv_sub hl [2] rfl)
        | 4, _ =>
          have hsw : ((xs (x4 : Int32).toNatClampNeg) &&& 15) = 4 := hsw
          have hw := hw.2.2.2.2.1 hsw
          refine lv_tableIn (tgt := 288) hx hb dL_law_40 (by rw [hsw]; decide) (by rw [hsw]; decide) (by rw [hsw]; rfl) (by decide) ?_
          refine lv_aload_n hx hb dL_law_288 rfl (lv_at hl 1 rfl) ?_
          refine lv_aload_n hx hb dL_law_289 rfl (lv_at hl 0 rfl) ?_
          refine lv_iload hx hb dL_law_290 (lv_at hl 4 rfl) ?_
          refine lv_iconst (v := 1) hx hb dL_law_292 (by decide) ?_
          refine lv_iadd hx hb dL_law_293 ?_
          obtain ⟨hi294, hw⟩ := hw
          refine va_sld hx hb hX hbl hbA hI.2.2.1 hi294 dL_law_294 ?_
          refine lv_aload_n hx hb dL_law_295 rfl (lv_at hl 0 rfl) ?_
          refine lv_iload hx hb dL_law_296 (lv_at hl 4 rfl) ?_
          refine lv_iconst (v := 2) hx hb dL_law_298 (by decide) ?_
          refine lv_iadd hx hb dL_law_299 ?_
          obtain ⟨hi300, hw⟩ := hw
          refine va_sld hx hb hX hbl hbA hI.2.2.1 hi300 dL_law_300 ?_
          refine lv_aload_n hx hb dL_law_301 rfl (lv_at hl 3 rfl) ?_
          obtain ⟨mc_302, ms_302, hkc1, hks1, hw⟩ := hw
          refine x_ci (vx_runSW (As := [.ref x1, .int (xs ((x4 + 1) : Int32).toNatClampNeg), .int (xs ((x4 + 2) : Int32).toNatClampNeg), .ref x3]) (rest := []) ⟨hx, hb, hml, hown, hg⟩ (m_L_measure l hst G h mc_302 ms_302 x1 (xs ((x4 + 1) : Int32).toNatClampNeg) (xs ((x4 + 2) : Int32).toNatClampNeg) x3 _ hw H.size) (vx_cwSW 4 hg (x_gSW km_L_78 ks_L_measure kn_L (at_cw _ (by decide +kernel))) rfl rfl rfl (by decide +kernel) ⟨Nat.le_of_ble_eq_true rfl, Nat.le_of_ble_eq_true rfl⟩) ⟨x_blindw, x_prew hI hK hZ hC⟩ rfl rfl hl.1 rfl (lv_room (Nat.le_of_ble_eq_true rfl)) dL_law_302 ⟨show nc + mc_302 ≤ 950342 by omega, show ns + ms_302 ≤ 6245077 by omega⟩) hI (fun r_302 h_302 H locs hw hI => ?_)
          refine lv_istore (lv' := [(5, .int r_302), (0, .ref b), (1, .ref x1), (2, .ref x2), (3, .ref x3), (4, .int x4)]) hx hb dL_law_305 hl (by decide) rfl (fun ls hl => ?_)
          refine lv_aload_n hx hb dL_law_307 rfl (lv_at hl 3 rfl) ?_
          refine lv_aload_n hx hb dL_law_308 rfl (lv_at hl 1 rfl) ?_
          refine lv_iload hx hb dL_law_309 (lv_at hl 5 rfl) ?_
          refine lv_iconst (v := 1) hx hb dL_law_311 (by decide) ?_
          refine lv_iadd hx hb dL_law_312 ?_
          obtain ⟨hi313, hw⟩ := hw
          refine va_sld hx hb hX hbl hbA hI.2.2.1 hi313 dL_law_313 ?_
          refine lv_aload_n hx hb dL_law_314 rfl (lv_at hl 1 rfl) ?_
          refine lv_iload hx hb dL_law_315 (lv_at hl 5 rfl) ?_
          refine lv_iconst (v := 2) hx hb dL_law_317 (by decide) ?_
          refine lv_iadd hx hb dL_law_318 ?_
          obtain ⟨hi319, hw⟩ := hw
          refine va_sld hx hb hX hbl hbA hI.2.2.1 hi319 dL_law_319 ?_
          obtain ⟨fs_320, he_320, hw⟩ := hw
          refine x_ci (va_runV (As := [.int (xs ((x4 + 1) : Int32).toNatClampNeg), .int (xs ((x4 + 2) : Int32).toNatClampNeg)]) (rest := []) ⟨hx, hb, hml, hown, hg⟩ (m_A7_measure l G h_302  x2 (xs ((x4 + 1) : Int32).toNatClampNeg) (xs ((x4 + 2) : Int32).toNatClampNeg) _ hw H.size) (cwV 2 hg (x_gV km_L_81 ki_X7_measure kz_X7_X7_measure kn_X7 kk_X7_measure) rfl rfl rfl (by decide +kernel) ⟨Nat.le_of_ble_eq_true rfl, Nat.le_of_ble_eq_true rfl⟩) ⟨x_blind, x_recv hI hK he_320 rfl rfl, x_pre hI hK⟩ rfl rfl hl.1 rfl (lv_room (Nat.le_of_ble_eq_true rfl)) dL_law_320 ⟨show nc + mc_302 + 0 ≤ 950342 by omega, show ns + ms_302 + 0 ≤ 6245077 by omega⟩) hI (fun r_320 h_320 H locs hw hI => ?_)
          refine lv_istore (lv' := [(6, .int r_320), (5, .int r_302), (0, .ref b), (1, .ref x1), (2, .ref x2), (3, .ref x3), (4, .int x4)]) hx hb dL_law_323 hl (by decide) rfl (fun ls hl => ?_)
          refine lv_aload_n hx hb dL_law_325 rfl (lv_at hl 4 rfl) ?_
          obtain ⟨fs_326, he_326, hw⟩ := hw
          refine x_ci (va_runV (As := []) (rest := []) ⟨hx, hb, hml, hown, hg⟩ (m_A7_thrown l G h_320  x2 _ hw H.size) (cwV 0 hg (x_gV km_L_63 ki_X7_thrown kz_X7_X7_thrown kn_X7 kk_X7_thrown) rfl rfl rfl (by decide +kernel) ⟨Nat.le_of_ble_eq_true rfl, Nat.le_of_ble_eq_true rfl⟩) ⟨x_blind, x_recv hI hK he_326 rfl rfl, x_pre hI hK⟩ rfl rfl hl.1 rfl (lv_room (Nat.le_of_ble_eq_true rfl)) dL_law_326 ⟨show nc + mc_302 + 0 + 0 ≤ 950342 by omega, show ns + ms_302 + 0 + 0 ≤ 6245077 by omega⟩) hI (fun r_326 h_326 H locs hw hI => ?_)
          refine lv_iload hx hb dL_law_329 (lv_at hl 1 rfl) ?_
          refine lv_icmp_eq (tgt := 336) hx hb dL_law_331 (by decide) (fun hc331 => ?_) (fun hc331 => ?_)
          · have hw := hw.1 hc331
            refine lv_iload hx hb dL_law_336 (lv_at hl 1 rfl) ?_
            refine lv_if_ne (tgt := 353) hx hb dL_law_338 (by decide) (fun hc338 => ?_) (fun hc338 => ?_)
            · have hw := hw.1 hc338
              exact mj_L_law_353 C  post _ _ _ _ _ _ _ _ _ _ _ _ _ _ _ _ _ _ _ _ (ih) hK131 hK215 hK239 hK266 hK283 hK334 hK351 hK414 hK431 hK506 hK523 hK610 hK627 hK702 hK718 hK805 hK822 hK850 hK858 _ _ _ _ _ _ _ _ _ _ _ _ hw hI (by omega) (by omega) (lv_sub hl [2, 3, 4, 5, 6] rfl)
            · have hw := hw.2 hc338
              refine lv_aload_n hx hb dL_law_341 rfl (lv_at hl 5 rfl) ?_
              refine lv_iconst (v := 0) hx hb dL_law_342 (by decide) ?_
              obtain ⟨n_343, f_343, he_343, hw⟩ := hw
              obtain ⟨hi343, hw⟩ := hw
              refine x_lald hx hb hK hI he_343 hi343 dL_law_343 ?_
              refine lv_iload hx hb dL_law_344 (lv_at hl 0 rfl) ?_
              refine lv_i2l (v := (r_320 : Int32).toInt64) hx hb dL_law_346 rfl ?_
              refine W.lcmp hx hb dL_law_347 ?_
              refine lv_if_eq (tgt := 353) hx hb dL_law_348 (by decide) (fun hc348 => ?_) (fun hc348 => ?_)
              · have hw := hw.1 ((lg_cmp_eq _ _).mp hc348)
                exact mj_L_law_353 C  post _ _ _ _ _ _ _ _ _ _ _ _ _ _ _ _ _ _ _ _ (ih) hK131 hK215 hK239 hK266 hK283 hK334 hK351 hK414 hK431 hK506 hK523 hK610 hK627 hK702 hK718 hK805 hK822 hK850 hK858 _ _ _ _ _ _ _ _ _ _ _ _ hw hI (by omega) (by omega) (lv_sub hl [2, 3, 4, 5, 6] rfl)
              · have hw := hw.2 (fun z => hc348 ((lg_cmp_eq _ _).mpr z))
                exact hK351 _ _ _ _ _ _ _ _ hw hI (by omega) (by omega) (lv_sub hl [2] rfl)
          · have hw := hw.2 hc331
            exact hK334 _ _ _ _ _ _ _ _ hw hI (by omega) (by omega) (lv_sub hl [2] rfl)
        | 5, _ =>
          have hsw : ((xs (x4 : Int32).toNatClampNeg) &&& 15) = 5 := hsw
          have hw := hw.2.2.2.2.2.1 hsw
          refine lv_tableIn (tgt := 356) hx hb dL_law_40 (by rw [hsw]; decide) (by rw [hsw]; decide) (by rw [hsw]; rfl) (by decide) ?_
          refine lv_aload_n hx hb dL_law_356 rfl (lv_at hl 1 rfl) ?_
          refine lv_aload_n hx hb dL_law_357 rfl (lv_at hl 0 rfl) ?_
          refine lv_iload hx hb dL_law_358 (lv_at hl 4 rfl) ?_
          refine lv_iconst (v := 1) hx hb dL_law_360 (by decide) ?_
          refine lv_iadd hx hb dL_law_361 ?_
          obtain ⟨hi362, hw⟩ := hw
          refine va_sld hx hb hX hbl hbA hI.2.2.1 hi362 dL_law_362 ?_
          refine lv_aload_n hx hb dL_law_363 rfl (lv_at hl 0 rfl) ?_
          refine lv_iload hx hb dL_law_364 (lv_at hl 4 rfl) ?_
          refine lv_iconst (v := 2) hx hb dL_law_366 (by decide) ?_
          refine lv_iadd hx hb dL_law_367 ?_
          obtain ⟨hi368, hw⟩ := hw
          refine va_sld hx hb hX hbl hbA hI.2.2.1 hi368 dL_law_368 ?_
          refine lv_aload_n hx hb dL_law_369 rfl (lv_at hl 0 rfl) ?_
          refine lv_iload hx hb dL_law_370 (lv_at hl 4 rfl) ?_
          refine lv_iconst (v := 3) hx hb dL_law_372 (by decide) ?_
          refine lv_iadd hx hb dL_law_373 ?_
          obtain ⟨hi374, hw⟩ := hw
          refine va_sld hx hb hX hbl hbA hI.2.2.1 hi374 dL_law_374 ?_
          refine lv_aload_n hx hb dL_law_375 rfl (lv_at hl 3 rfl) ?_
          obtain ⟨mc_376, ms_376, hkc1, hks1, hw⟩ := hw
          refine x_ci (vx_runSW (As := [.ref x1, .int (xs ((x4 + 1) : Int32).toNatClampNeg), .int (xs ((x4 + 2) : Int32).toNatClampNeg), .int (xs ((x4 + 3) : Int32).toNatClampNeg), .ref x3]) (rest := []) ⟨hx, hb, hml, hown, hg⟩ (m_L_sign l hst G h mc_376 ms_376 x1 (xs ((x4 + 1) : Int32).toNatClampNeg) (xs ((x4 + 2) : Int32).toNatClampNeg) (xs ((x4 + 3) : Int32).toNatClampNeg) x3 _ hw H.size) (vx_cwSW 5 hg (x_gSW km_L_82 ks_L_sign kn_L (at_cw _ (by decide +kernel))) rfl rfl rfl (by decide +kernel) ⟨Nat.le_of_ble_eq_true rfl, Nat.le_of_ble_eq_true rfl⟩) ⟨x_blindw, x_prew hI hK hZ hC⟩ rfl rfl hl.1 rfl (lv_room (Nat.le_of_ble_eq_true rfl)) dL_law_376 ⟨show nc + mc_376 ≤ 950342 by omega, show ns + ms_376 ≤ 6245077 by omega⟩) hI (fun r_376 h_376 H locs hw hI => ?_)
          refine lv_istore (lv' := [(5, .int r_376), (0, .ref b), (1, .ref x1), (2, .ref x2), (3, .ref x3), (4, .int x4)]) hx hb dL_law_379 hl (by decide) rfl (fun ls hl => ?_)
          refine lv_aload_n hx hb dL_law_381 rfl (lv_at hl 3 rfl) ?_
          refine lv_aload_n hx hb dL_law_382 rfl (lv_at hl 1 rfl) ?_
          refine lv_iload hx hb dL_law_383 (lv_at hl 5 rfl) ?_
          refine lv_iconst (v := 1) hx hb dL_law_385 (by decide) ?_
          refine lv_iadd hx hb dL_law_386 ?_
          obtain ⟨hi387, hw⟩ := hw
          refine va_sld hx hb hX hbl hbA hI.2.2.1 hi387 dL_law_387 ?_
          refine lv_aload_n hx hb dL_law_388 rfl (lv_at hl 1 rfl) ?_
          refine lv_iload hx hb dL_law_389 (lv_at hl 5 rfl) ?_
          refine lv_iconst (v := 2) hx hb dL_law_391 (by decide) ?_
          refine lv_iadd hx hb dL_law_392 ?_
          obtain ⟨hi393, hw⟩ := hw
          refine va_sld hx hb hX hbl hbA hI.2.2.1 hi393 dL_law_393 ?_
          refine lv_aload_n hx hb dL_law_394 rfl (lv_at hl 1 rfl) ?_
          refine lv_iload hx hb dL_law_395 (lv_at hl 5 rfl) ?_
          refine lv_iconst (v := 3) hx hb dL_law_397 (by decide) ?_
          refine lv_iadd hx hb dL_law_398 ?_
          obtain ⟨hi399, hw⟩ := hw
          refine va_sld hx hb hX hbl hbA hI.2.2.1 hi399 dL_law_399 ?_
          obtain ⟨fs_400, he_400, hw⟩ := hw
          refine x_ci (va_runV (As := [.int (xs ((x4 + 1) : Int32).toNatClampNeg), .int (xs ((x4 + 2) : Int32).toNatClampNeg), .int (xs ((x4 + 3) : Int32).toNatClampNeg)]) (rest := []) ⟨hx, hb, hml, hown, hg⟩ (m_A7_sign l G h_376  x2 (xs ((x4 + 1) : Int32).toNatClampNeg) (xs ((x4 + 2) : Int32).toNatClampNeg) (xs ((x4 + 3) : Int32).toNatClampNeg) _ hw H.size) (cwV 3 hg (x_gV km_L_85 ki_X7_sign kz_X7_X7_sign kn_X7 kk_X7_sign) rfl rfl rfl (by decide +kernel) ⟨Nat.le_of_ble_eq_true rfl, Nat.le_of_ble_eq_true rfl⟩) ⟨x_blind, x_recv hI hK he_400 rfl rfl, x_pre hI hK⟩ rfl rfl hl.1 rfl (lv_room (Nat.le_of_ble_eq_true rfl)) dL_law_400 ⟨show nc + mc_376 + 0 ≤ 950342 by omega, show ns + ms_376 + 0 ≤ 6245077 by omega⟩) hI (fun r_400 h_400 H locs hw hI => ?_)
          refine lv_istore (lv' := [(6, .int r_400), (5, .int r_376), (0, .ref b), (1, .ref x1), (2, .ref x2), (3, .ref x3), (4, .int x4)]) hx hb dL_law_403 hl (by decide) rfl (fun ls hl => ?_)
          refine lv_aload_n hx hb dL_law_405 rfl (lv_at hl 4 rfl) ?_
          obtain ⟨fs_406, he_406, hw⟩ := hw
          refine x_ci (va_runV (As := []) (rest := []) ⟨hx, hb, hml, hown, hg⟩ (m_A7_thrown l G h_400  x2 _ hw H.size) (cwV 0 hg (x_gV km_L_63 ki_X7_thrown kz_X7_X7_thrown kn_X7 kk_X7_thrown) rfl rfl rfl (by decide +kernel) ⟨Nat.le_of_ble_eq_true rfl, Nat.le_of_ble_eq_true rfl⟩) ⟨x_blind, x_recv hI hK he_406 rfl rfl, x_pre hI hK⟩ rfl rfl hl.1 rfl (lv_room (Nat.le_of_ble_eq_true rfl)) dL_law_406 ⟨show nc + mc_376 + 0 + 0 ≤ 950342 by omega, show ns + ms_376 + 0 + 0 ≤ 6245077 by omega⟩) hI (fun r_406 h_406 H locs hw hI => ?_)
          refine lv_iload hx hb dL_law_409 (lv_at hl 1 rfl) ?_
          refine lv_icmp_eq (tgt := 416) hx hb dL_law_411 (by decide) (fun hc411 => ?_) (fun hc411 => ?_)
          · have hw := hw.1 hc411
            refine lv_iload hx hb dL_law_416 (lv_at hl 1 rfl) ?_
            refine lv_if_ne (tgt := 433) hx hb dL_law_418 (by decide) (fun hc418 => ?_) (fun hc418 => ?_)
            · have hw := hw.1 hc418
              exact mj_L_law_433 C  post _ _ _ _ _ _ _ _ _ _ _ _ _ _ _ _ _ _ _ _ (ih) hK131 hK215 hK239 hK266 hK283 hK334 hK351 hK414 hK431 hK506 hK523 hK610 hK627 hK702 hK718 hK805 hK822 hK850 hK858 _ _ _ _ _ _ _ _ _ _ _ _ hw hI (by omega) (by omega) (lv_sub hl [2, 3, 4, 5, 6] rfl)
            · have hw := hw.2 hc418
              refine lv_aload_n hx hb dL_law_421 rfl (lv_at hl 5 rfl) ?_
              refine lv_iconst (v := 0) hx hb dL_law_422 (by decide) ?_
              obtain ⟨n_423, f_423, he_423, hw⟩ := hw
              obtain ⟨hi423, hw⟩ := hw
              refine x_lald hx hb hK hI he_423 hi423 dL_law_423 ?_
              refine lv_iload hx hb dL_law_424 (lv_at hl 0 rfl) ?_
              refine lv_i2l (v := (r_400 : Int32).toInt64) hx hb dL_law_426 rfl ?_
              refine W.lcmp hx hb dL_law_427 ?_
              refine lv_if_eq (tgt := 433) hx hb dL_law_428 (by decide) (fun hc428 => ?_) (fun hc428 => ?_)
              · have hw := hw.1 ((lg_cmp_eq _ _).mp hc428)
                exact mj_L_law_433 C  post _ _ _ _ _ _ _ _ _ _ _ _ _ _ _ _ _ _ _ _ (ih) hK131 hK215 hK239 hK266 hK283 hK334 hK351 hK414 hK431 hK506 hK523 hK610 hK627 hK702 hK718 hK805 hK822 hK850 hK858 _ _ _ _ _ _ _ _ _ _ _ _ hw hI (by omega) (by omega) (lv_sub hl [2, 3, 4, 5, 6] rfl)
              · have hw := hw.2 (fun z => hc428 ((lg_cmp_eq _ _).mpr z))
                exact hK431 _ _ _ _ _ _ _ _ hw hI (by omega) (by omega) (lv_sub hl [2] rfl)
          · have hw := hw.2 hc411
            exact hK414 _ _ _ _ _ _ _ _ hw hI (by omega) (by omega) (lv_sub hl [2] rfl)
        | 6, _ =>
          have hsw : ((xs (x4 : Int32).toNatClampNeg) &&& 15) = 6 := hsw
          have hw := hw.2.2.2.2.2.2.1 hsw
          refine lv_tableIn (tgt := 436) hx hb dL_law_40 (by rw [hsw]; decide) (by rw [hsw]; decide) (by rw [hsw]; rfl) (by decide) ?_
          refine lv_aload_n hx hb dL_law_436 rfl (lv_at hl 1 rfl) ?_
          refine lv_aload_n hx hb dL_law_437 rfl (lv_at hl 0 rfl) ?_
          refine lv_iload hx hb dL_law_438 (lv_at hl 4 rfl) ?_
          refine lv_iconst (v := 1) hx hb dL_law_440 (by decide) ?_
          refine lv_iadd hx hb dL_law_441 ?_
          obtain ⟨hi442, hw⟩ := hw
          refine va_sld hx hb hX hbl hbA hI.2.2.1 hi442 dL_law_442 ?_
          refine lv_aload_n hx hb dL_law_443 rfl (lv_at hl 0 rfl) ?_
          refine lv_iload hx hb dL_law_444 (lv_at hl 4 rfl) ?_
          refine lv_iconst (v := 2) hx hb dL_law_446 (by decide) ?_
          refine lv_iadd hx hb dL_law_447 ?_
          obtain ⟨hi448, hw⟩ := hw
          refine va_sld hx hb hX hbl hbA hI.2.2.1 hi448 dL_law_448 ?_
          refine lv_aload_n hx hb dL_law_449 rfl (lv_at hl 0 rfl) ?_
          refine lv_iload hx hb dL_law_450 (lv_at hl 4 rfl) ?_
          refine lv_iconst (v := 3) hx hb dL_law_452 (by decide) ?_
          refine lv_iadd hx hb dL_law_453 ?_
          obtain ⟨hi454, hw⟩ := hw
          refine va_sld hx hb hX hbl hbA hI.2.2.1 hi454 dL_law_454 ?_
          refine lv_aload_n hx hb dL_law_455 rfl (lv_at hl 0 rfl) ?_
          refine lv_iload hx hb dL_law_456 (lv_at hl 4 rfl) ?_
          refine lv_iconst (v := 4) hx hb dL_law_458 (by decide) ?_
          refine lv_iadd hx hb dL_law_459 ?_
          obtain ⟨hi460, hw⟩ := hw
          refine va_sld hx hb hX hbl hbA hI.2.2.1 hi460 dL_law_460 ?_
          refine lv_aload_n hx hb dL_law_461 rfl (lv_at hl 3 rfl) ?_
          obtain ⟨mc_462, ms_462, hkc1, hks1, hw⟩ := hw
          refine x_ci (vx_runSW (As := [.ref x1, .int (xs ((x4 + 1) : Int32).toNatClampNeg), .int (xs ((x4 + 2) : Int32).toNatClampNeg), .int (xs ((x4 + 3) : Int32).toNatClampNeg), .int (xs ((x4 + 4) : Int32).toNatClampNeg), .ref x3]) (rest := []) ⟨hx, hb, hml, hown, hg⟩ (m_L_pieces l hst G h mc_462 ms_462 x1 (xs ((x4 + 1) : Int32).toNatClampNeg) (xs ((x4 + 2) : Int32).toNatClampNeg) (xs ((x4 + 3) : Int32).toNatClampNeg) (xs ((x4 + 4) : Int32).toNatClampNeg) x3 _ hw H.size) (vx_cwSW 6 hg (x_gSW km_L_86 ks_L_pieces kn_L (at_cw _ (by decide +kernel))) rfl rfl rfl (by decide +kernel) ⟨Nat.le_of_ble_eq_true rfl, Nat.le_of_ble_eq_true rfl⟩) ⟨x_blindw, x_prew hI hK hZ hC⟩ rfl rfl hl.1 rfl (lv_room (Nat.le_of_ble_eq_true rfl)) dL_law_462 ⟨show nc + mc_462 ≤ 950342 by omega, show ns + ms_462 ≤ 6245077 by omega⟩) hI (fun r_462 h_462 H locs hw hI => ?_)
          refine lv_istore (lv' := [(5, .int r_462), (0, .ref b), (1, .ref x1), (2, .ref x2), (3, .ref x3), (4, .int x4)]) hx hb dL_law_465 hl (by decide) rfl (fun ls hl => ?_)
          refine lv_aload_n hx hb dL_law_467 rfl (lv_at hl 3 rfl) ?_
          refine lv_aload_n hx hb dL_law_468 rfl (lv_at hl 1 rfl) ?_
          refine lv_iload hx hb dL_law_469 (lv_at hl 5 rfl) ?_
          refine lv_iconst (v := 1) hx hb dL_law_471 (by decide) ?_
          refine lv_iadd hx hb dL_law_472 ?_
          obtain ⟨hi473, hw⟩ := hw
          refine va_sld hx hb hX hbl hbA hI.2.2.1 hi473 dL_law_473 ?_
          refine lv_aload_n hx hb dL_law_474 rfl (lv_at hl 1 rfl) ?_
          refine lv_iload hx hb dL_law_475 (lv_at hl 5 rfl) ?_
          refine lv_iconst (v := 2) hx hb dL_law_477 (by decide) ?_
          refine lv_iadd hx hb dL_law_478 ?_
          obtain ⟨hi479, hw⟩ := hw
          refine va_sld hx hb hX hbl hbA hI.2.2.1 hi479 dL_law_479 ?_
          refine lv_aload_n hx hb dL_law_480 rfl (lv_at hl 1 rfl) ?_
          refine lv_iload hx hb dL_law_481 (lv_at hl 5 rfl) ?_
          refine lv_iconst (v := 3) hx hb dL_law_483 (by decide) ?_
          refine lv_iadd hx hb dL_law_484 ?_
          obtain ⟨hi485, hw⟩ := hw
          refine va_sld hx hb hX hbl hbA hI.2.2.1 hi485 dL_law_485 ?_
          refine lv_aload_n hx hb dL_law_486 rfl (lv_at hl 1 rfl) ?_
          refine lv_iload hx hb dL_law_487 (lv_at hl 5 rfl) ?_
          refine lv_iconst (v := 4) hx hb dL_law_489 (by decide) ?_
          refine lv_iadd hx hb dL_law_490 ?_
          obtain ⟨hi491, hw⟩ := hw
          refine va_sld hx hb hX hbl hbA hI.2.2.1 hi491 dL_law_491 ?_
          obtain ⟨fs_492, he_492, hw⟩ := hw
          refine x_ci (va_runV (As := [.int (xs ((x4 + 1) : Int32).toNatClampNeg), .int (xs ((x4 + 2) : Int32).toNatClampNeg), .int (xs ((x4 + 3) : Int32).toNatClampNeg), .int (xs ((x4 + 4) : Int32).toNatClampNeg)]) (rest := []) ⟨hx, hb, hml, hown, hg⟩ (m_A7_pieces l G h_462  x2 (xs ((x4 + 1) : Int32).toNatClampNeg) (xs ((x4 + 2) : Int32).toNatClampNeg) (xs ((x4 + 3) : Int32).toNatClampNeg) (xs ((x4 + 4) : Int32).toNatClampNeg) _ hw H.size) (cwV 4 hg (x_gV km_L_89 ki_X7_pieces kz_X7_X7_pieces kn_X7 kk_X7_pieces) rfl rfl rfl (by decide +kernel) ⟨Nat.le_of_ble_eq_true rfl, Nat.le_of_ble_eq_true rfl⟩) ⟨x_blind, x_recv hI hK he_492 rfl rfl, x_pre hI hK⟩ rfl rfl hl.1 rfl (lv_room (Nat.le_of_ble_eq_true rfl)) dL_law_492 ⟨show nc + mc_462 + 0 ≤ 950342 by omega, show ns + ms_462 + 0 ≤ 6245077 by omega⟩) hI (fun r_492 h_492 H locs hw hI => ?_)
          refine lv_istore (lv' := [(6, .int r_492), (5, .int r_462), (0, .ref b), (1, .ref x1), (2, .ref x2), (3, .ref x3), (4, .int x4)]) hx hb dL_law_495 hl (by decide) rfl (fun ls hl => ?_)
          refine lv_aload_n hx hb dL_law_497 rfl (lv_at hl 4 rfl) ?_
          obtain ⟨fs_498, he_498, hw⟩ := hw
          refine x_ci (va_runV (As := []) (rest := []) ⟨hx, hb, hml, hown, hg⟩ (m_A7_thrown l G h_492  x2 _ hw H.size) (cwV 0 hg (x_gV km_L_63 ki_X7_thrown kz_X7_X7_thrown kn_X7 kk_X7_thrown) rfl rfl rfl (by decide +kernel) ⟨Nat.le_of_ble_eq_true rfl, Nat.le_of_ble_eq_true rfl⟩) ⟨x_blind, x_recv hI hK he_498 rfl rfl, x_pre hI hK⟩ rfl rfl hl.1 rfl (lv_room (Nat.le_of_ble_eq_true rfl)) dL_law_498 ⟨show nc + mc_462 + 0 + 0 ≤ 950342 by omega, show ns + ms_462 + 0 + 0 ≤ 6245077 by omega⟩) hI (fun r_498 h_498 H locs hw hI => ?_)
          refine lv_iload hx hb dL_law_501 (lv_at hl 1 rfl) ?_
          refine lv_icmp_eq (tgt := 508) hx hb dL_law_503 (by decide) (fun hc503 => ?_) (fun hc503 => ?_)
          · have hw := hw.1 hc503
            refine lv_iload hx hb dL_law_508 (lv_at hl 1 rfl) ?_
            refine lv_if_ne (tgt := 525) hx hb dL_law_510 (by decide) (fun hc510 => ?_) (fun hc510 => ?_)
            · have hw := hw.1 hc510
              exact mj_L_law_525 C  post _ _ _ _ _ _ _ _ _ _ _ _ _ _ _ _ _ _ _ _ (ih) hK131 hK215 hK239 hK266 hK283 hK334 hK351 hK414 hK431 hK506 hK523 hK610 hK627 hK702 hK718 hK805 hK822 hK850 hK858 _ _ _ _ _ _ _ _ _ _ _ _ hw hI (by omega) (by omega) (lv_sub hl [2, 3, 4, 5, 6] rfl)
            · have hw := hw.2 hc510
              refine lv_aload_n hx hb dL_law_513 rfl (lv_at hl 5 rfl) ?_
              refine lv_iconst (v := 0) hx hb dL_law_514 (by decide) ?_
              obtain ⟨n_515, f_515, he_515, hw⟩ := hw
              obtain ⟨hi515, hw⟩ := hw
              refine x_lald hx hb hK hI he_515 hi515 dL_law_515 ?_
              refine lv_iload hx hb dL_law_516 (lv_at hl 0 rfl) ?_
              refine lv_i2l (v := (r_492 : Int32).toInt64) hx hb dL_law_518 rfl ?_
              refine W.lcmp hx hb dL_law_519 ?_
              refine lv_if_eq (tgt := 525) hx hb dL_law_520 (by decide) (fun hc520 => ?_) (fun hc520 => ?_)
              · have hw := hw.1 ((lg_cmp_eq _ _).mp hc520)
                exact mj_L_law_525 C  post _ _ _ _ _ _ _ _ _ _ _ _ _ _ _ _ _ _ _ _ (ih) hK131 hK215 hK239 hK266 hK283 hK334 hK351 hK414 hK431 hK506 hK523 hK610 hK627 hK702 hK718 hK805 hK822 hK850 hK858 _ _ _ _ _ _ _ _ _ _ _ _ hw hI (by omega) (by omega) (lv_sub hl [2, 3, 4, 5, 6] rfl)
              · have hw := hw.2 (fun z => hc520 ((lg_cmp_eq _ _).mpr z))
                exact hK523 _ _ _ _ _ _ _ _ hw hI (by omega) (by omega) (lv_sub hl [2] rfl)
          · have hw := hw.2 hc503
            exact hK506 _ _ _ _ _ _ _ _ hw hI (by omega) (by omega) (lv_sub hl [2] rfl)
        | 7, _ =>
          have hsw : ((xs (x4 : Int32).toNatClampNeg) &&& 15) = 7 := hsw
          have hw := hw.2.2.2.2.2.2.2.1 hsw
          refine lv_tableIn (tgt := 528) hx hb dL_law_40 (by rw [hsw]; decide) (by rw [hsw]; decide) (by rw [hsw]; rfl) (by decide) ?_
          refine lv_aload_n hx hb dL_law_528 rfl (lv_at hl 1 rfl) ?_
          refine lv_aload_n hx hb dL_law_529 rfl (lv_at hl 0 rfl) ?_
          refine lv_iload hx hb dL_law_530 (lv_at hl 4 rfl) ?_
          refine lv_iconst (v := 1) hx hb dL_law_532 (by decide) ?_
          refine lv_iadd hx hb dL_law_533 ?_
          obtain ⟨hi534, hw⟩ := hw
          refine va_sld hx hb hX hbl hbA hI.2.2.1 hi534 dL_law_534 ?_
          refine lv_aload_n hx hb dL_law_535 rfl (lv_at hl 0 rfl) ?_
          refine lv_iload hx hb dL_law_536 (lv_at hl 4 rfl) ?_
          refine lv_iconst (v := 2) hx hb dL_law_538 (by decide) ?_
          refine lv_iadd hx hb dL_law_539 ?_
          obtain ⟨hi540, hw⟩ := hw
          refine va_sld hx hb hX hbl hbA hI.2.2.1 hi540 dL_law_540 ?_
          refine lv_aload_n hx hb dL_law_541 rfl (lv_at hl 0 rfl) ?_
          refine lv_iload hx hb dL_law_542 (lv_at hl 4 rfl) ?_
          refine lv_iconst (v := 3) hx hb dL_law_544 (by decide) ?_
          refine lv_iadd hx hb dL_law_545 ?_
          obtain ⟨hi546, hw⟩ := hw
          refine va_sld hx hb hX hbl hbA hI.2.2.1 hi546 dL_law_546 ?_
          refine lv_aload_n hx hb dL_law_547 rfl (lv_at hl 0 rfl) ?_
          refine lv_iload hx hb dL_law_548 (lv_at hl 4 rfl) ?_
          refine lv_iconst (v := 4) hx hb dL_law_550 (by decide) ?_
          refine lv_iadd hx hb dL_law_551 ?_
          obtain ⟨hi552, hw⟩ := hw
          refine va_sld hx hb hX hbl hbA hI.2.2.1 hi552 dL_law_552 ?_
          refine lv_aload_n hx hb dL_law_553 rfl (lv_at hl 0 rfl) ?_
          refine lv_iload hx hb dL_law_554 (lv_at hl 4 rfl) ?_
          refine lv_iconst (v := 5) hx hb dL_law_556 (by decide) ?_
          refine lv_iadd hx hb dL_law_557 ?_
          obtain ⟨hi558, hw⟩ := hw
          refine va_sld hx hb hX hbl hbA hI.2.2.1 hi558 dL_law_558 ?_
          refine lv_aload_n hx hb dL_law_559 rfl (lv_at hl 3 rfl) ?_
          obtain ⟨mc_560, ms_560, hkc1, hks1, hw⟩ := hw
          refine x_ci (vx_runSW (As := [.ref x1, .int (xs ((x4 + 1) : Int32).toNatClampNeg), .int (xs ((x4 + 2) : Int32).toNatClampNeg), .int (xs ((x4 + 3) : Int32).toNatClampNeg), .int (xs ((x4 + 4) : Int32).toNatClampNeg), .int (xs ((x4 + 5) : Int32).toNatClampNeg), .ref x3]) (rest := []) ⟨hx, hb, hml, hown, hg⟩ (m_L_piece l hst G h mc_560 ms_560 x1 (xs ((x4 + 1) : Int32).toNatClampNeg) (xs ((x4 + 2) : Int32).toNatClampNeg) (xs ((x4 + 3) : Int32).toNatClampNeg) (xs ((x4 + 4) : Int32).toNatClampNeg) (xs ((x4 + 5) : Int32).toNatClampNeg) x3 _ hw H.size) (vx_cwSW 7 hg (x_gSW km_L_90 ks_L_piece kn_L (at_cw _ (by decide +kernel))) rfl rfl rfl (by decide +kernel) ⟨Nat.le_of_ble_eq_true rfl, Nat.le_of_ble_eq_true rfl⟩) ⟨x_blindw, x_prew hI hK hZ hC⟩ rfl rfl hl.1 rfl (lv_room (Nat.le_of_ble_eq_true rfl)) dL_law_560 ⟨show nc + mc_560 ≤ 950342 by omega, show ns + ms_560 ≤ 6245077 by omega⟩) hI (fun r_560 h_560 H locs hw hI => ?_)
          refine lv_istore (lv' := [(5, .int r_560), (0, .ref b), (1, .ref x1), (2, .ref x2), (3, .ref x3), (4, .int x4)]) hx hb dL_law_563 hl (by decide) rfl (fun ls hl => ?_)
          refine lv_aload_n hx hb dL_law_565 rfl (lv_at hl 3 rfl) ?_
          refine lv_aload_n hx hb dL_law_566 rfl (lv_at hl 1 rfl) ?_
          refine lv_iload hx hb dL_law_567 (lv_at hl 5 rfl) ?_
          refine lv_iconst (v := 1) hx hb dL_law_569 (by decide) ?_
          refine lv_iadd hx hb dL_law_570 ?_
          obtain ⟨hi571, hw⟩ := hw
          refine va_sld hx hb hX hbl hbA hI.2.2.1 hi571 dL_law_571 ?_
          refine lv_aload_n hx hb dL_law_572 rfl (lv_at hl 1 rfl) ?_
          refine lv_iload hx hb dL_law_573 (lv_at hl 5 rfl) ?_
          refine lv_iconst (v := 2) hx hb dL_law_575 (by decide) ?_
          refine lv_iadd hx hb dL_law_576 ?_
          obtain ⟨hi577, hw⟩ := hw
          refine va_sld hx hb hX hbl hbA hI.2.2.1 hi577 dL_law_577 ?_
          refine lv_aload_n hx hb dL_law_578 rfl (lv_at hl 1 rfl) ?_
          refine lv_iload hx hb dL_law_579 (lv_at hl 5 rfl) ?_
          refine lv_iconst (v := 3) hx hb dL_law_581 (by decide) ?_
          refine lv_iadd hx hb dL_law_582 ?_
          obtain ⟨hi583, hw⟩ := hw
          refine va_sld hx hb hX hbl hbA hI.2.2.1 hi583 dL_law_583 ?_
          refine lv_aload_n hx hb dL_law_584 rfl (lv_at hl 1 rfl) ?_
          refine lv_iload hx hb dL_law_585 (lv_at hl 5 rfl) ?_
          refine lv_iconst (v := 4) hx hb dL_law_587 (by decide) ?_
          refine lv_iadd hx hb dL_law_588 ?_
          obtain ⟨hi589, hw⟩ := hw
          refine va_sld hx hb hX hbl hbA hI.2.2.1 hi589 dL_law_589 ?_
          refine lv_aload_n hx hb dL_law_590 rfl (lv_at hl 1 rfl) ?_
          refine lv_iload hx hb dL_law_591 (lv_at hl 5 rfl) ?_
          refine lv_iconst (v := 5) hx hb dL_law_593 (by decide) ?_
          refine lv_iadd hx hb dL_law_594 ?_
          obtain ⟨hi595, hw⟩ := hw
          refine va_sld hx hb hX hbl hbA hI.2.2.1 hi595 dL_law_595 ?_
          obtain ⟨fs_596, he_596, hw⟩ := hw
          refine x_ci (va_runV (As := [.int (xs ((x4 + 1) : Int32).toNatClampNeg), .int (xs ((x4 + 2) : Int32).toNatClampNeg), .int (xs ((x4 + 3) : Int32).toNatClampNeg), .int (xs ((x4 + 4) : Int32).toNatClampNeg), .int (xs ((x4 + 5) : Int32).toNatClampNeg)]) (rest := []) ⟨hx, hb, hml, hown, hg⟩ (m_A7_piece l G h_560  x2 (xs ((x4 + 1) : Int32).toNatClampNeg) (xs ((x4 + 2) : Int32).toNatClampNeg) (xs ((x4 + 3) : Int32).toNatClampNeg) (xs ((x4 + 4) : Int32).toNatClampNeg) (xs ((x4 + 5) : Int32).toNatClampNeg) _ hw H.size) (cwV 5 hg (x_gV km_L_93 ki_X7_piece kz_X7_X7_piece kn_X7 kk_X7_piece) rfl rfl rfl (by decide +kernel) ⟨Nat.le_of_ble_eq_true rfl, Nat.le_of_ble_eq_true rfl⟩) ⟨x_blind, x_recv hI hK he_596 rfl rfl, x_pre hI hK⟩ rfl rfl hl.1 rfl (lv_room (Nat.le_of_ble_eq_true rfl)) dL_law_596 ⟨show nc + mc_560 + 0 ≤ 950342 by omega, show ns + ms_560 + 0 ≤ 6245077 by omega⟩) hI (fun r_596 h_596 H locs hw hI => ?_)
          refine lv_istore (lv' := [(6, .int r_596), (5, .int r_560), (0, .ref b), (1, .ref x1), (2, .ref x2), (3, .ref x3), (4, .int x4)]) hx hb dL_law_599 hl (by decide) rfl (fun ls hl => ?_)
          refine lv_aload_n hx hb dL_law_601 rfl (lv_at hl 4 rfl) ?_
          obtain ⟨fs_602, he_602, hw⟩ := hw
          refine x_ci (va_runV (As := []) (rest := []) ⟨hx, hb, hml, hown, hg⟩ (m_A7_thrown l G h_596  x2 _ hw H.size) (cwV 0 hg (x_gV km_L_63 ki_X7_thrown kz_X7_X7_thrown kn_X7 kk_X7_thrown) rfl rfl rfl (by decide +kernel) ⟨Nat.le_of_ble_eq_true rfl, Nat.le_of_ble_eq_true rfl⟩) ⟨x_blind, x_recv hI hK he_602 rfl rfl, x_pre hI hK⟩ rfl rfl hl.1 rfl (lv_room (Nat.le_of_ble_eq_true rfl)) dL_law_602 ⟨show nc + mc_560 + 0 + 0 ≤ 950342 by omega, show ns + ms_560 + 0 + 0 ≤ 6245077 by omega⟩) hI (fun r_602 h_602 H locs hw hI => ?_)
          refine lv_iload hx hb dL_law_605 (lv_at hl 1 rfl) ?_
          refine lv_icmp_eq (tgt := 612) hx hb dL_law_607 (by decide) (fun hc607 => ?_) (fun hc607 => ?_)
          · have hw := hw.1 hc607
            refine lv_iload hx hb dL_law_612 (lv_at hl 1 rfl) ?_
            refine lv_if_ne (tgt := 629) hx hb dL_law_614 (by decide) (fun hc614 => ?_) (fun hc614 => ?_)
            · have hw := hw.1 hc614
              exact mj_L_law_629 C  post _ _ _ _ _ _ _ _ _ _ _ _ _ _ _ _ _ _ _ _ (ih) hK131 hK215 hK239 hK266 hK283 hK334 hK351 hK414 hK431 hK506 hK523 hK610 hK627 hK702 hK718 hK805 hK822 hK850 hK858 _ _ _ _ _ _ _ _ _ _ _ _ hw hI (by omega) (by omega) (lv_sub hl [2, 3, 4, 5, 6] rfl)
            · have hw := hw.2 hc614
              refine lv_aload_n hx hb dL_law_617 rfl (lv_at hl 5 rfl) ?_
              refine lv_iconst (v := 0) hx hb dL_law_618 (by decide) ?_
              obtain ⟨n_619, f_619, he_619, hw⟩ := hw
              obtain ⟨hi619, hw⟩ := hw
              refine x_lald hx hb hK hI he_619 hi619 dL_law_619 ?_
              refine lv_iload hx hb dL_law_620 (lv_at hl 0 rfl) ?_
              refine lv_i2l (v := (r_596 : Int32).toInt64) hx hb dL_law_622 rfl ?_
              refine W.lcmp hx hb dL_law_623 ?_
              refine lv_if_eq (tgt := 629) hx hb dL_law_624 (by decide) (fun hc624 => ?_) (fun hc624 => ?_)
              · have hw := hw.1 ((lg_cmp_eq _ _).mp hc624)
                exact mj_L_law_629 C  post _ _ _ _ _ _ _ _ _ _ _ _ _ _ _ _ _ _ _ _ (ih) hK131 hK215 hK239 hK266 hK283 hK334 hK351 hK414 hK431 hK506 hK523 hK610 hK627 hK702 hK718 hK805 hK822 hK850 hK858 _ _ _ _ _ _ _ _ _ _ _ _ hw hI (by omega) (by omega) (lv_sub hl [2, 3, 4, 5, 6] rfl)
              · have hw := hw.2 (fun z => hc624 ((lg_cmp_eq _ _).mpr z))
                exact hK627 _ _ _ _ _ _ _ _ hw hI (by omega) (by omega) (lv_sub hl [2] rfl)
          · have hw := hw.2 hc607
            exact hK610 _ _ _ _ _ _ _ _ hw hI (by omega) (by omega) (lv_sub hl [2] rfl)
        | 8, _ =>
          have hsw : ((xs (x4 : Int32).toNatClampNeg) &&& 15) = 8 := hsw
          have hw := hw.2.2.2.2.2.2.2.2.1 hsw
          refine lv_tableIn (tgt := 632) hx hb dL_law_40 (by rw [hsw]; decide) (by rw [hsw]; decide) (by rw [hsw]; rfl) (by decide) ?_
          refine lv_aload_n hx hb dL_law_632 rfl (lv_at hl 1 rfl) ?_
          refine lv_aload_n hx hb dL_law_633 rfl (lv_at hl 0 rfl) ?_
          refine lv_iload hx hb dL_law_634 (lv_at hl 4 rfl) ?_
          refine lv_iconst (v := 1) hx hb dL_law_636 (by decide) ?_
          refine lv_iadd hx hb dL_law_637 ?_
          obtain ⟨hi638, hw⟩ := hw
          refine va_sld hx hb hX hbl hbA hI.2.2.1 hi638 dL_law_638 ?_
          refine lv_aload_n hx hb dL_law_639 rfl (lv_at hl 0 rfl) ?_
          refine lv_iload hx hb dL_law_640 (lv_at hl 4 rfl) ?_
          refine lv_iconst (v := 2) hx hb dL_law_642 (by decide) ?_
          refine lv_iadd hx hb dL_law_643 ?_
          obtain ⟨hi644, hw⟩ := hw
          refine va_sld hx hb hX hbl hbA hI.2.2.1 hi644 dL_law_644 ?_
          refine lv_aload_n hx hb dL_law_645 rfl (lv_at hl 0 rfl) ?_
          refine lv_iload hx hb dL_law_646 (lv_at hl 4 rfl) ?_
          refine lv_iconst (v := 3) hx hb dL_law_648 (by decide) ?_
          refine lv_iadd hx hb dL_law_649 ?_
          obtain ⟨hi650, hw⟩ := hw
          refine va_sld hx hb hX hbl hbA hI.2.2.1 hi650 dL_law_650 ?_
          refine lv_aload_n hx hb dL_law_651 rfl (lv_at hl 0 rfl) ?_
          refine lv_iload hx hb dL_law_652 (lv_at hl 4 rfl) ?_
          refine lv_iconst (v := 4) hx hb dL_law_654 (by decide) ?_
          refine lv_iadd hx hb dL_law_655 ?_
          obtain ⟨hi656, hw⟩ := hw
          refine va_sld hx hb hX hbl hbA hI.2.2.1 hi656 dL_law_656 ?_
          refine lv_aload_n hx hb dL_law_657 rfl (lv_at hl 3 rfl) ?_
          obtain ⟨mc_658, ms_658, hkc1, hks1, hw⟩ := hw
          refine x_ci (vx_runSW (As := [.ref x1, .int (xs ((x4 + 1) : Int32).toNatClampNeg), .int (xs ((x4 + 2) : Int32).toNatClampNeg), .int (xs ((x4 + 3) : Int32).toNatClampNeg), .int (xs ((x4 + 4) : Int32).toNatClampNeg), .ref x3]) (rest := []) ⟨hx, hb, hml, hown, hg⟩ (m_L_scaled l hst G h mc_658 ms_658 x1 (xs ((x4 + 1) : Int32).toNatClampNeg) (xs ((x4 + 2) : Int32).toNatClampNeg) (xs ((x4 + 3) : Int32).toNatClampNeg) (xs ((x4 + 4) : Int32).toNatClampNeg) x3 _ hw H.size) (vx_cwSW 6 hg (x_gSW km_L_94 ks_L_scaled kn_L (at_cw _ (by decide +kernel))) rfl rfl rfl (by decide +kernel) ⟨Nat.le_of_ble_eq_true rfl, Nat.le_of_ble_eq_true rfl⟩) ⟨x_blindw, x_prew hI hK hZ hC⟩ rfl rfl hl.1 rfl (lv_room (Nat.le_of_ble_eq_true rfl)) dL_law_658 ⟨show nc + mc_658 ≤ 950342 by omega, show ns + ms_658 ≤ 6245077 by omega⟩) hI (fun r_658 h_658 H locs hw hI => ?_)
          refine lv_istore (lv' := [(5, .int r_658), (0, .ref b), (1, .ref x1), (2, .ref x2), (3, .ref x3), (4, .int x4)]) hx hb dL_law_661 hl (by decide) rfl (fun ls hl => ?_)
          refine lv_aload_n hx hb dL_law_663 rfl (lv_at hl 3 rfl) ?_
          refine lv_aload_n hx hb dL_law_664 rfl (lv_at hl 1 rfl) ?_
          refine lv_iload hx hb dL_law_665 (lv_at hl 5 rfl) ?_
          refine lv_iconst (v := 1) hx hb dL_law_667 (by decide) ?_
          refine lv_iadd hx hb dL_law_668 ?_
          obtain ⟨hi669, hw⟩ := hw
          refine va_sld hx hb hX hbl hbA hI.2.2.1 hi669 dL_law_669 ?_
          refine lv_aload_n hx hb dL_law_670 rfl (lv_at hl 1 rfl) ?_
          refine lv_iload hx hb dL_law_671 (lv_at hl 5 rfl) ?_
          refine lv_iconst (v := 2) hx hb dL_law_673 (by decide) ?_
          refine lv_iadd hx hb dL_law_674 ?_
          obtain ⟨hi675, hw⟩ := hw
          refine va_sld hx hb hX hbl hbA hI.2.2.1 hi675 dL_law_675 ?_
          refine lv_aload_n hx hb dL_law_676 rfl (lv_at hl 1 rfl) ?_
          refine lv_iload hx hb dL_law_677 (lv_at hl 5 rfl) ?_
          refine lv_iconst (v := 3) hx hb dL_law_679 (by decide) ?_
          refine lv_iadd hx hb dL_law_680 ?_
          obtain ⟨hi681, hw⟩ := hw
          refine va_sld hx hb hX hbl hbA hI.2.2.1 hi681 dL_law_681 ?_
          refine lv_aload_n hx hb dL_law_682 rfl (lv_at hl 1 rfl) ?_
          refine lv_iload hx hb dL_law_683 (lv_at hl 5 rfl) ?_
          refine lv_iconst (v := 4) hx hb dL_law_685 (by decide) ?_
          refine lv_iadd hx hb dL_law_686 ?_
          obtain ⟨hi687, hw⟩ := hw
          refine va_sld hx hb hX hbl hbA hI.2.2.1 hi687 dL_law_687 ?_
          obtain ⟨fs_688, he_688, hw⟩ := hw
          refine x_cl (va_runV (As := [.int (xs ((x4 + 1) : Int32).toNatClampNeg), .int (xs ((x4 + 2) : Int32).toNatClampNeg), .int (xs ((x4 + 3) : Int32).toNatClampNeg), .int (xs ((x4 + 4) : Int32).toNatClampNeg)]) (rest := []) ⟨hx, hb, hml, hown, hg⟩ (m_A7_scaled l G h_658  x2 (xs ((x4 + 1) : Int32).toNatClampNeg) (xs ((x4 + 2) : Int32).toNatClampNeg) (xs ((x4 + 3) : Int32).toNatClampNeg) (xs ((x4 + 4) : Int32).toNatClampNeg) _ hw H.size) (cwV 4 hg (x_gV km_L_96 ki_X7_scaled kz_X7_X7_scaled kn_X7 kk_X7_scaled) rfl rfl rfl (by decide +kernel) ⟨Nat.le_of_ble_eq_true rfl, Nat.le_of_ble_eq_true rfl⟩) ⟨x_blind, x_recv hI hK he_688 rfl rfl, x_pre hI hK⟩ rfl rfl hl.1 rfl (lv_room (Nat.le_of_ble_eq_true rfl)) dL_law_688 ⟨show nc + mc_658 + 0 ≤ 950342 by omega, show ns + ms_658 + 0 ≤ 6245077 by omega⟩) hI (fun r_688 h_688 H locs hw hI => ?_)
          refine lv_lstore (lv' := [(6, .long r_688), (5, .int r_658), (0, .ref b), (1, .ref x1), (2, .ref x2), (3, .ref x3), (4, .int x4)]) hx hb dL_law_691 hl (by decide) rfl (fun ls hl => ?_)
          refine lv_aload_n hx hb dL_law_693 rfl (lv_at hl 4 rfl) ?_
          obtain ⟨fs_694, he_694, hw⟩ := hw
          refine x_ci (va_runV (As := []) (rest := []) ⟨hx, hb, hml, hown, hg⟩ (m_A7_thrown l G h_688  x2 _ hw H.size) (cwV 0 hg (x_gV km_L_63 ki_X7_thrown kz_X7_X7_thrown kn_X7 kk_X7_thrown) rfl rfl rfl (by decide +kernel) ⟨Nat.le_of_ble_eq_true rfl, Nat.le_of_ble_eq_true rfl⟩) ⟨x_blind, x_recv hI hK he_694 rfl rfl, x_pre hI hK⟩ rfl rfl hl.1 rfl (lv_room (Nat.le_of_ble_eq_true rfl)) dL_law_694 ⟨show nc + mc_658 + 0 + 0 ≤ 950342 by omega, show ns + ms_658 + 0 + 0 ≤ 6245077 by omega⟩) hI (fun r_694 h_694 H locs hw hI => ?_)
          refine lv_iload hx hb dL_law_697 (lv_at hl 1 rfl) ?_
          refine lv_icmp_eq (tgt := 704) hx hb dL_law_699 (by decide) (fun hc699 => ?_) (fun hc699 => ?_)
          · have hw := hw.1 hc699
            refine lv_iload hx hb dL_law_704 (lv_at hl 1 rfl) ?_
            refine lv_if_ne (tgt := 720) hx hb dL_law_706 (by decide) (fun hc706 => ?_) (fun hc706 => ?_)
            · have hw := hw.1 hc706
              exact mj_L_law_720 C  post _ _ _ _ _ _ _ _ _ _ _ _ _ _ _ _ _ _ _ _ (ih) hK131 hK215 hK239 hK266 hK283 hK334 hK351 hK414 hK431 hK506 hK523 hK610 hK627 hK702 hK718 hK805 hK822 hK850 hK858 _ _ _ _ _ _ _ _ _ _ _ _ hw hI (by omega) (by omega) (lv_sub hl [2, 3, 4, 5, 6] rfl)
            · have hw := hw.2 hc706
              refine lv_aload_n hx hb dL_law_709 rfl (lv_at hl 5 rfl) ?_
              refine lv_iconst (v := 0) hx hb dL_law_710 (by decide) ?_
              obtain ⟨n_711, f_711, he_711, hw⟩ := hw
              obtain ⟨hi711, hw⟩ := hw
              refine x_lald hx hb hK hI he_711 hi711 dL_law_711 ?_
              refine lv_lload hx hb dL_law_712 (lv_at hl 0 rfl) ?_
              refine W.lcmp hx hb dL_law_714 ?_
              refine lv_if_eq (tgt := 720) hx hb dL_law_715 (by decide) (fun hc715 => ?_) (fun hc715 => ?_)
              · have hw := hw.1 ((lg_cmp_eq _ _).mp hc715)
                exact mj_L_law_720 C  post _ _ _ _ _ _ _ _ _ _ _ _ _ _ _ _ _ _ _ _ (ih) hK131 hK215 hK239 hK266 hK283 hK334 hK351 hK414 hK431 hK506 hK523 hK610 hK627 hK702 hK718 hK805 hK822 hK850 hK858 _ _ _ _ _ _ _ _ _ _ _ _ hw hI (by omega) (by omega) (lv_sub hl [2, 3, 4, 5, 6] rfl)
              · have hw := hw.2 (fun z => hc715 ((lg_cmp_eq _ _).mpr z))
                exact hK718 _ _ _ _ _ _ _ _ hw hI (by omega) (by omega) (lv_sub hl [2] rfl)
          · have hw := hw.2 hc699
            exact hK702 _ _ _ _ _ _ _ _ hw hI (by omega) (by omega) (lv_sub hl [2] rfl)
        | 9, _ =>
          have hsw : ((xs (x4 : Int32).toNatClampNeg) &&& 15) = 9 := hsw
          have hw := hw.2.2.2.2.2.2.2.2.2.1 hsw
          refine lv_tableIn (tgt := 723) hx hb dL_law_40 (by rw [hsw]; decide) (by rw [hsw]; decide) (by rw [hsw]; rfl) (by decide) ?_
          refine lv_aload_n hx hb dL_law_723 rfl (lv_at hl 1 rfl) ?_
          refine lv_aload_n hx hb dL_law_724 rfl (lv_at hl 0 rfl) ?_
          refine lv_iload hx hb dL_law_725 (lv_at hl 4 rfl) ?_
          refine lv_iconst (v := 1) hx hb dL_law_727 (by decide) ?_
          refine lv_iadd hx hb dL_law_728 ?_
          obtain ⟨hi729, hw⟩ := hw
          refine va_sld hx hb hX hbl hbA hI.2.2.1 hi729 dL_law_729 ?_
          refine lv_aload_n hx hb dL_law_730 rfl (lv_at hl 0 rfl) ?_
          refine lv_iload hx hb dL_law_731 (lv_at hl 4 rfl) ?_
          refine lv_iconst (v := 2) hx hb dL_law_733 (by decide) ?_
          refine lv_iadd hx hb dL_law_734 ?_
          obtain ⟨hi735, hw⟩ := hw
          refine va_sld hx hb hX hbl hbA hI.2.2.1 hi735 dL_law_735 ?_
          refine lv_aload_n hx hb dL_law_736 rfl (lv_at hl 0 rfl) ?_
          refine lv_iload hx hb dL_law_737 (lv_at hl 4 rfl) ?_
          refine lv_iconst (v := 3) hx hb dL_law_739 (by decide) ?_
          refine lv_iadd hx hb dL_law_740 ?_
          obtain ⟨hi741, hw⟩ := hw
          refine va_sld hx hb hX hbl hbA hI.2.2.1 hi741 dL_law_741 ?_
          refine lv_aload_n hx hb dL_law_742 rfl (lv_at hl 0 rfl) ?_
          refine lv_iload hx hb dL_law_743 (lv_at hl 4 rfl) ?_
          refine lv_iconst (v := 4) hx hb dL_law_745 (by decide) ?_
          refine lv_iadd hx hb dL_law_746 ?_
          obtain ⟨hi747, hw⟩ := hw
          refine va_sld hx hb hX hbl hbA hI.2.2.1 hi747 dL_law_747 ?_
          refine lv_aload_n hx hb dL_law_748 rfl (lv_at hl 0 rfl) ?_
          refine lv_iload hx hb dL_law_749 (lv_at hl 4 rfl) ?_
          refine lv_iconst (v := 5) hx hb dL_law_751 (by decide) ?_
          refine lv_iadd hx hb dL_law_752 ?_
          obtain ⟨hi753, hw⟩ := hw
          refine va_sld hx hb hX hbl hbA hI.2.2.1 hi753 dL_law_753 ?_
          refine lv_aload_n hx hb dL_law_754 rfl (lv_at hl 3 rfl) ?_
          obtain ⟨mc_755, ms_755, hkc1, hks1, hw⟩ := hw
          refine x_ci (vx_runSW (As := [.ref x1, .int (xs ((x4 + 1) : Int32).toNatClampNeg), .int (xs ((x4 + 2) : Int32).toNatClampNeg), .int (xs ((x4 + 3) : Int32).toNatClampNeg), .int (xs ((x4 + 4) : Int32).toNatClampNeg), .int (xs ((x4 + 5) : Int32).toNatClampNeg), .ref x3]) (rest := []) ⟨hx, hb, hml, hown, hg⟩ (m_L_compare l hst G h mc_755 ms_755 x1 (xs ((x4 + 1) : Int32).toNatClampNeg) (xs ((x4 + 2) : Int32).toNatClampNeg) (xs ((x4 + 3) : Int32).toNatClampNeg) (xs ((x4 + 4) : Int32).toNatClampNeg) (xs ((x4 + 5) : Int32).toNatClampNeg) x3 _ hw H.size) (vx_cwSW 7 hg (x_gSW km_L_97 ks_L_compare kn_L (at_cw _ (by decide +kernel))) rfl rfl rfl (by decide +kernel) ⟨Nat.le_of_ble_eq_true rfl, Nat.le_of_ble_eq_true rfl⟩) ⟨x_blindw, x_prew hI hK hZ hC⟩ rfl rfl hl.1 rfl (lv_room (Nat.le_of_ble_eq_true rfl)) dL_law_755 ⟨show nc + mc_755 ≤ 950342 by omega, show ns + ms_755 ≤ 6245077 by omega⟩) hI (fun r_755 h_755 H locs hw hI => ?_)
          refine lv_istore (lv' := [(5, .int r_755), (0, .ref b), (1, .ref x1), (2, .ref x2), (3, .ref x3), (4, .int x4)]) hx hb dL_law_758 hl (by decide) rfl (fun ls hl => ?_)
          refine lv_aload_n hx hb dL_law_760 rfl (lv_at hl 3 rfl) ?_
          refine lv_aload_n hx hb dL_law_761 rfl (lv_at hl 1 rfl) ?_
          refine lv_iload hx hb dL_law_762 (lv_at hl 5 rfl) ?_
          refine lv_iconst (v := 1) hx hb dL_law_764 (by decide) ?_
          refine lv_iadd hx hb dL_law_765 ?_
          obtain ⟨hi766, hw⟩ := hw
          refine va_sld hx hb hX hbl hbA hI.2.2.1 hi766 dL_law_766 ?_
          refine lv_aload_n hx hb dL_law_767 rfl (lv_at hl 1 rfl) ?_
          refine lv_iload hx hb dL_law_768 (lv_at hl 5 rfl) ?_
          refine lv_iconst (v := 2) hx hb dL_law_770 (by decide) ?_
          refine lv_iadd hx hb dL_law_771 ?_
          obtain ⟨hi772, hw⟩ := hw
          refine va_sld hx hb hX hbl hbA hI.2.2.1 hi772 dL_law_772 ?_
          refine lv_aload_n hx hb dL_law_773 rfl (lv_at hl 1 rfl) ?_
          refine lv_iload hx hb dL_law_774 (lv_at hl 5 rfl) ?_
          refine lv_iconst (v := 3) hx hb dL_law_776 (by decide) ?_
          refine lv_iadd hx hb dL_law_777 ?_
          obtain ⟨hi778, hw⟩ := hw
          refine va_sld hx hb hX hbl hbA hI.2.2.1 hi778 dL_law_778 ?_
          refine lv_aload_n hx hb dL_law_779 rfl (lv_at hl 1 rfl) ?_
          refine lv_iload hx hb dL_law_780 (lv_at hl 5 rfl) ?_
          refine lv_iconst (v := 4) hx hb dL_law_782 (by decide) ?_
          refine lv_iadd hx hb dL_law_783 ?_
          obtain ⟨hi784, hw⟩ := hw
          refine va_sld hx hb hX hbl hbA hI.2.2.1 hi784 dL_law_784 ?_
          refine lv_aload_n hx hb dL_law_785 rfl (lv_at hl 1 rfl) ?_
          refine lv_iload hx hb dL_law_786 (lv_at hl 5 rfl) ?_
          refine lv_iconst (v := 5) hx hb dL_law_788 (by decide) ?_
          refine lv_iadd hx hb dL_law_789 ?_
          obtain ⟨hi790, hw⟩ := hw
          refine va_sld hx hb hX hbl hbA hI.2.2.1 hi790 dL_law_790 ?_
          obtain ⟨fs_791, he_791, hw⟩ := hw
          refine x_ci (va_runV (As := [.int (xs ((x4 + 1) : Int32).toNatClampNeg), .int (xs ((x4 + 2) : Int32).toNatClampNeg), .int (xs ((x4 + 3) : Int32).toNatClampNeg), .int (xs ((x4 + 4) : Int32).toNatClampNeg), .int (xs ((x4 + 5) : Int32).toNatClampNeg)]) (rest := []) ⟨hx, hb, hml, hown, hg⟩ (m_A7_compare l G h_755  x2 (xs ((x4 + 1) : Int32).toNatClampNeg) (xs ((x4 + 2) : Int32).toNatClampNeg) (xs ((x4 + 3) : Int32).toNatClampNeg) (xs ((x4 + 4) : Int32).toNatClampNeg) (xs ((x4 + 5) : Int32).toNatClampNeg) _ hw H.size) (cwV 5 hg (x_gV km_L_99 ki_X7_compare kz_X7_X7_compare kn_X7 kk_X7_compare) rfl rfl rfl (by decide +kernel) ⟨Nat.le_of_ble_eq_true rfl, Nat.le_of_ble_eq_true rfl⟩) ⟨x_blind, x_recv hI hK he_791 rfl rfl, x_pre hI hK⟩ rfl rfl hl.1 rfl (lv_room (Nat.le_of_ble_eq_true rfl)) dL_law_791 ⟨show nc + mc_755 + 0 ≤ 950342 by omega, show ns + ms_755 + 0 ≤ 6245077 by omega⟩) hI (fun r_791 h_791 H locs hw hI => ?_)
          refine lv_istore (lv' := [(6, .int r_791), (5, .int r_755), (0, .ref b), (1, .ref x1), (2, .ref x2), (3, .ref x3), (4, .int x4)]) hx hb dL_law_794 hl (by decide) rfl (fun ls hl => ?_)
          refine lv_aload_n hx hb dL_law_796 rfl (lv_at hl 4 rfl) ?_
          obtain ⟨fs_797, he_797, hw⟩ := hw
          refine x_ci (va_runV (As := []) (rest := []) ⟨hx, hb, hml, hown, hg⟩ (m_A7_thrown l G h_791  x2 _ hw H.size) (cwV 0 hg (x_gV km_L_63 ki_X7_thrown kz_X7_X7_thrown kn_X7 kk_X7_thrown) rfl rfl rfl (by decide +kernel) ⟨Nat.le_of_ble_eq_true rfl, Nat.le_of_ble_eq_true rfl⟩) ⟨x_blind, x_recv hI hK he_797 rfl rfl, x_pre hI hK⟩ rfl rfl hl.1 rfl (lv_room (Nat.le_of_ble_eq_true rfl)) dL_law_797 ⟨show nc + mc_755 + 0 + 0 ≤ 950342 by omega, show ns + ms_755 + 0 + 0 ≤ 6245077 by omega⟩) hI (fun r_797 h_797 H locs hw hI => ?_)
          refine lv_iload hx hb dL_law_800 (lv_at hl 1 rfl) ?_
          refine lv_icmp_eq (tgt := 807) hx hb dL_law_802 (by decide) (fun hc802 => ?_) (fun hc802 => ?_)
          · have hw := hw.1 hc802
            refine lv_iload hx hb dL_law_807 (lv_at hl 1 rfl) ?_
            refine lv_if_ne (tgt := 824) hx hb dL_law_809 (by decide) (fun hc809 => ?_) (fun hc809 => ?_)
            · have hw := hw.1 hc809
              exact mj_L_law_824 C  post _ _ _ _ _ _ _ _ _ _ _ _ _ _ _ _ _ _ _ _ (ih) hK131 hK215 hK239 hK266 hK283 hK334 hK351 hK414 hK431 hK506 hK523 hK610 hK627 hK702 hK718 hK805 hK822 hK850 hK858 _ _ _ _ _ _ _ _ _ _ _ _ hw hI (by omega) (by omega) (lv_sub hl [2, 3, 4, 5, 6] rfl)
            · have hw := hw.2 hc809
              refine lv_aload_n hx hb dL_law_812 rfl (lv_at hl 5 rfl) ?_
              refine lv_iconst (v := 0) hx hb dL_law_813 (by decide) ?_
              obtain ⟨n_814, f_814, he_814, hw⟩ := hw
              obtain ⟨hi814, hw⟩ := hw
              refine x_lald hx hb hK hI he_814 hi814 dL_law_814 ?_
              refine lv_iload hx hb dL_law_815 (lv_at hl 0 rfl) ?_
              refine lv_i2l (v := (r_791 : Int32).toInt64) hx hb dL_law_817 rfl ?_
              refine W.lcmp hx hb dL_law_818 ?_
              refine lv_if_eq (tgt := 824) hx hb dL_law_819 (by decide) (fun hc819 => ?_) (fun hc819 => ?_)
              · have hw := hw.1 ((lg_cmp_eq _ _).mp hc819)
                exact mj_L_law_824 C  post _ _ _ _ _ _ _ _ _ _ _ _ _ _ _ _ _ _ _ _ (ih) hK131 hK215 hK239 hK266 hK283 hK334 hK351 hK414 hK431 hK506 hK523 hK610 hK627 hK702 hK718 hK805 hK822 hK850 hK858 _ _ _ _ _ _ _ _ _ _ _ _ hw hI (by omega) (by omega) (lv_sub hl [2, 3, 4, 5, 6] rfl)
              · have hw := hw.2 (fun z => hc819 ((lg_cmp_eq _ _).mpr z))
                exact hK822 _ _ _ _ _ _ _ _ hw hI (by omega) (by omega) (lv_sub hl [2] rfl)
          · have hw := hw.2 hc802
            exact hK805 _ _ _ _ _ _ _ _ hw hI (by omega) (by omega) (lv_sub hl [2] rfl)
        | 10, _ =>
          have hsw : ((xs (x4 : Int32).toNatClampNeg) &&& 15) = 10 := hsw
          have hw := hw.2.2.2.2.2.2.2.2.2.2 hsw
          refine lv_tableIn (tgt := 827) hx hb dL_law_40 (by rw [hsw]; decide) (by rw [hsw]; decide) (by rw [hsw]; rfl) (by decide) ?_
          refine lv_aload_n hx hb dL_law_827 rfl (lv_at hl 1 rfl) ?_
          refine lv_aload_n hx hb dL_law_828 rfl (lv_at hl 0 rfl) ?_
          refine lv_iload hx hb dL_law_829 (lv_at hl 4 rfl) ?_
          refine lv_iconst (v := 1) hx hb dL_law_831 (by decide) ?_
          refine lv_iadd hx hb dL_law_832 ?_
          obtain ⟨hi833, hw⟩ := hw
          refine va_sld hx hb hX hbl hbA hI.2.2.1 hi833 dL_law_833 ?_
          obtain ⟨fs_834, he_834, hw⟩ := hw
          refine x_ci (va_runV (As := [.int (xs ((x4 + 1) : Int32).toNatClampNeg)]) (rest := []) ⟨hx, hb, hml, hown, hg⟩ (m_X6_about l G h  x1 (xs ((x4 + 1) : Int32).toNatClampNeg) _ hw H.size) (cwV 1 hg (x_gV km_L_100 ki_X6_about kz_X6_X6_about kn_X6 kk_X6_about) rfl rfl rfl (by decide +kernel) ⟨Nat.le_of_ble_eq_true rfl, Nat.le_of_ble_eq_true rfl⟩) ⟨x_blind, x_recv hI hK he_834 rfl rfl, x_pre hI hK⟩ rfl rfl hl.1 rfl (lv_room (Nat.le_of_ble_eq_true rfl)) dL_law_834 ⟨show nc + 0 ≤ 950342 by omega, show ns + 0 ≤ 6245077 by omega⟩) hI (fun r_834 h_834 H locs hw hI => ?_)
          obtain ⟨eh_834, hw⟩ := hw
          rw [eh_834] at hI
          refine lv_aload_n hx hb dL_law_837 rfl (lv_at hl 2 rfl) ?_
          refine lv_aload_n hx hb dL_law_838 rfl (lv_at hl 0 rfl) ?_
          refine lv_iload hx hb dL_law_839 (lv_at hl 4 rfl) ?_
          refine lv_iconst (v := 1) hx hb dL_law_841 (by decide) ?_
          refine lv_iadd hx hb dL_law_842 ?_
          obtain ⟨hi843, hw⟩ := hw
          refine va_sld hx hb hX hbl hbA hI.2.2.1 hi843 dL_law_843 ?_
          obtain ⟨fs_844, he_844, hw⟩ := hw
          refine x_ci (va_runV (As := [.int (xs ((x4 + 1) : Int32).toNatClampNeg)]) (rest := [.int r_834]) ⟨hx, hb, hml, hown, hg⟩ (m_A7_about l G h  x2 (xs ((x4 + 1) : Int32).toNatClampNeg) _ hw H.size) (cwV 1 hg (x_gV km_L_104 ki_X7_about kz_X7_X7_about kn_X7 kk_X7_about) rfl rfl rfl (by decide +kernel) ⟨Nat.le_of_ble_eq_true rfl, Nat.le_of_ble_eq_true rfl⟩) ⟨x_blind, x_recv hI hK he_844 rfl rfl, x_pre hI hK⟩ rfl rfl hl.1 rfl (lv_room (Nat.le_of_ble_eq_true rfl)) dL_law_844 ⟨show nc + 0 + 0 ≤ 950342 by omega, show ns + 0 + 0 ≤ 6245077 by omega⟩) hI (fun r_844 h_844 H locs hw hI => ?_)
          refine lv_icmp_eq (tgt := 852) hx hb dL_law_847 (by decide) (fun hc847 => ?_) (fun hc847 => ?_)
          · have hw := hw.1 hc847
            exact mj_L_law_852 C  post _ _ _ _ _ _ _ _ _ _ _ _ _ _ _ _ _ _ _ _ (ih) hK131 hK215 hK239 hK266 hK283 hK334 hK351 hK414 hK431 hK506 hK523 hK610 hK627 hK702 hK718 hK805 hK822 hK850 hK858 _ _ _ _ _ _ _ _ _ _ _ _ hw hI (by omega) (by omega) (lv_sub hl [0, 1, 2, 3, 4] rfl)
          · have hw := hw.2 hc847
            exact hK850 _ _ _ _ _ _ _ _ hw hI (by omega) (by omega) (lv_sub hl [0] rfl)
        | j9 + 11, hj9 => exact absurd hj9 (by omega)
set_option maxHeartbeats 8000000 in
set_option maxRecDepth 100000 in
theorem m_L_law (C : CL p l s m meth c G b L xs) (post : Unit) (hw : wp_L_law L xs post) : W p l e room_1 s m #[Value.ref b] below meth c s.heap [] 0 0 (lw_Z below #[Value.ref b] s) (entryFrame m ([Value.ref b] : List Value).toArray 8) := by
  obtain ⟨hx, hb, hr, hml, hown, hg, hlocks, hK, hZ, hC, hst, hX, hbl, hbA⟩ := id C
  have hI : x_I G (x_A hN s.heap.size) s.heap hN s.heap [] := x_I.start (fun _ _ h => nomatch h)
  have hkc : 0 + 950342 ≤ 950342 := by omega
  have hks : 0 + 6245077 ≤ 6245077 := by omega
  have hl := lv_entry ([.ref b]) (n := 8) (Nat.le_of_ble_eq_true rfl)
  rw [lg_entry_eq]
  generalize (lg_sl ([.ref b]) ++ List.replicate (8 - (lg_sl ([.ref b])).length) Slot.unset).toArray = ls at hl ⊢
  have hl : lv_has ls 8 [(0, .ref b)] := hl
  unfold wp_L_law at hw
  obtain ⟨hkc1, hks1, hw⟩ := hw
  refine x_new (ci := 6) (fs := [.null, .int 0, .int 0, .int 0, .int 0, .null, .null, .null, .null, .null]) (C := RX6) (T := TX6) (N := 10) hx hb hg ku_X6 tyX6 tyX6_ok hown (hg _ kl_L_8) (hg _ kt_X6) (hg _ kn_X6) hK hI rfl (by decide +kernel) (show 0 + 1 ≤ 950342 by omega) (show 0 + 10 ≤ 6245077 by omega) dL_law_0 (fun q_0 H hfr0 hI => ?_)
  have hw := hw q_0 hfr0
  obtain ⟨h_0, eh_0⟩ : ∃ z : xH, z = x_up hN q_0 (.inr (6, [.null, .int 0, .int 0, .int 0, .int 0, .null, .null, .null, .null, .null])) := ⟨_, rfl⟩
  rw [← eh_0] at hI
  have hw := hw h_0 eh_0
  have heh_0 : h_0 q_0 = some (.inr (6, [.null, .int 0, .int 0, .int 0, .int 0, .null, .null, .null, .null, .null])) := by rw [eh_0]; exact x_up_s
  refine lv_dup hx hb dL_law_3 rfl ?_
  obtain ⟨mc_4, ms_4, hkc1, hks1, hw⟩ := hw
  refine x_cv (va_runI (As := []) (rest := [.ref q_0]) ⟨hx, hb, hml, hown, hg⟩ (m_X6_init l G h_0 mc_4 ms_4 q_0 _ hw H.size) (cwI 0 hg (x_gI kk_X6_init) rfl rfl rfl (hg _ kn_X6) (hg _ km_L_53) (hg _ ki_X6_init) rfl (by decide +kernel) ⟨Nat.le_of_ble_eq_true rfl, Nat.le_of_ble_eq_true rfl⟩) ⟨x_blind, x_pre hI hK⟩ rfl rfl hl.1 rfl (lv_room (Nat.le_of_ble_eq_true rfl)) dL_law_4 ⟨show 0 + 1 + mc_4 ≤ 950342 by omega, show 0 + 10 + ms_4 ≤ 6245077 by omega⟩) hI (fun h_4 H locs hw hI => ?_)
  refine lv_astore_n (lv' := [(1, .ref q_0), (0, .ref b)]) hx hb dL_law_7 rfl hl (by decide) rfl (fun ls hl => ?_)
  obtain ⟨hkc1, hks1, hw⟩ := hw
  refine x_new (ci := 7) (fs := [.int 0, .int 0, .null, .null, .int 0, .int 0, .int 0, .int 0, .null, .null, .null, .null]) (C := RX7) (T := TX7) (N := 12) hx hb hg ku_X7 tyX7 tyX7_ok hown (hg _ kl_L_54) (hg _ kt_X7) (hg _ kn_X7) hK hI rfl (by decide +kernel) (show 0 + 1 + mc_4 + 1 ≤ 950342 by omega) (show 0 + 10 + ms_4 + 12 ≤ 6245077 by omega) dL_law_8 (fun q_8 H hfr8 hI => ?_)
  have hw := hw q_8 hfr8
  obtain ⟨h_8, eh_8⟩ : ∃ z : xH, z = x_up h_4 q_8 (.inr (7, [.int 0, .int 0, .null, .null, .int 0, .int 0, .int 0, .int 0, .null, .null, .null, .null])) := ⟨_, rfl⟩
  rw [← eh_8] at hI
  have hw := hw h_8 eh_8
  have heh_8 : h_8 q_8 = some (.inr (7, [.int 0, .int 0, .null, .null, .int 0, .int 0, .int 0, .int 0, .null, .null, .null, .null])) := by rw [eh_8]; exact x_up_s
  refine lv_dup hx hb dL_law_11 rfl ?_
  obtain ⟨mc_12, ms_12, hkc1, hks1, hw⟩ := hw
  refine x_cv (va_runI (As := []) (rest := [.ref q_8]) ⟨hx, hb, hml, hown, hg⟩ (m_X7_init l G h_8 mc_12 ms_12 q_8 _ hw H.size) (cwI 0 hg (x_gI kk_X7_init) rfl rfl rfl (hg _ kn_X7) (hg _ km_L_56) (hg _ ki_X7_init) rfl (by decide +kernel) ⟨Nat.le_of_ble_eq_true rfl, Nat.le_of_ble_eq_true rfl⟩) ⟨x_blind, x_pre hI hK⟩ rfl rfl hl.1 rfl (lv_room (Nat.le_of_ble_eq_true rfl)) dL_law_12 ⟨show 0 + 1 + mc_4 + 1 + mc_12 ≤ 950342 by omega, show 0 + 10 + ms_4 + 12 + ms_12 ≤ 6245077 by omega⟩) hI (fun h_12 H locs hw hI => ?_)
  refine lv_astore_n (lv' := [(2, .ref q_8), (1, .ref q_0), (0, .ref b)]) hx hb dL_law_15 rfl hl (by decide) rfl (fun ls hl => ?_)
  refine lv_iconst (v := 1) hx hb dL_law_16 (by decide) ?_
  obtain ⟨hneg17, hw⟩ := hw
  obtain ⟨z_17, hz17⟩ : ∃ z : Nat, (1 : Int32).toNatClampNeg = z := ⟨_, rfl⟩
  obtain ⟨hz217, hkc1, hks1, hw⟩ := hw z_17 hz17
  refine x_newl hx hb (hg _ ka_long) hK hI hneg17 hz17 (by omega) (show 0 + 1 + mc_4 + 1 + mc_12 + 1 ≤ 950342 by omega) (show 0 + 10 + ms_4 + 12 + ms_12 + z_17 ≤ 6245077 by omega) dL_law_17 (fun q_17 H hfr17 hI => ?_)
  have hw := hw q_17 hfr17
  obtain ⟨h_17, eh_17⟩ : ∃ z : xH, z = x_up h_12 q_17 (.inl (1, z_17, .inr (.inl (fun _ => 0)))) := ⟨_, rfl⟩
  rw [← eh_17] at hI
  have hw := hw h_17 eh_17
  have heh_17 : h_17 q_17 = some (.inl (1, z_17, .inr (.inl (fun _ => 0)))) := by rw [eh_17]; exact x_up_s
  refine lv_astore_n (lv' := [(3, .ref q_17), (2, .ref q_8), (1, .ref q_0), (0, .ref b)]) hx hb dL_law_19 rfl hl (by decide) rfl (fun ls hl => ?_)
  refine lv_iconst (v := 0) hx hb dL_law_20 (by decide) ?_
  refine lv_istore (lv' := [(4, .int 0), (3, .ref q_17), (2, .ref q_8), (1, .ref q_0), (0, .ref b)]) hx hb dL_law_21 hl (by decide) rfl (fun ls hl => ?_)
  obtain ⟨n23, hw⟩ := hw
  refine ml_L_law_23 C  post _ _ _ _ _ _ _ _ _ _ _ _ _ _ _ _ _ _ _ ?_ ?_ ?_ ?_ ?_ ?_ ?_ ?_ ?_ ?_ ?_ ?_ ?_ ?_ ?_ ?_ ?_ ?_ ?_ n23 _ _ _ _ _ _ _ _ _ _ _ _ hw hI (by omega) (by omega) (lv_sub hl [4, 3, 2, 1, 0] rfl)
  · intro h kc ks H locs ls nc ns hw hI hkc hks hl
    refine lv_iconst (v := 0) hx hb dL_law_131 (by decide) ?_
    first | exact hw.elim | exact law_end hx hb hr hlocks hI (by omega) (by omega) dL_law_132
  · intro h kc ks H locs ls nc ns hw hI hkc hks hl
    refine lv_iconst (v := 0) hx hb dL_law_215 (by decide) ?_
    first | exact hw.elim | exact law_end hx hb hr hlocks hI (by omega) (by omega) dL_law_216
  · intro h kc ks H locs ls nc ns hw hI hkc hks hl
    refine lv_iconst (v := 0) hx hb dL_law_239 (by decide) ?_
    first | exact hw.elim | exact law_end hx hb hr hlocks hI (by omega) (by omega) dL_law_240
  · intro h kc ks H locs ls nc ns hw hI hkc hks hl
    refine lv_iconst (v := 0) hx hb dL_law_266 (by decide) ?_
    first | exact hw.elim | exact law_end hx hb hr hlocks hI (by omega) (by omega) dL_law_267
  · intro h kc ks H locs ls nc ns hw hI hkc hks hl
    refine lv_iconst (v := 0) hx hb dL_law_283 (by decide) ?_
    first | exact hw.elim | exact law_end hx hb hr hlocks hI (by omega) (by omega) dL_law_284
  · intro h kc ks H locs ls nc ns hw hI hkc hks hl
    refine lv_iconst (v := 0) hx hb dL_law_334 (by decide) ?_
    first | exact hw.elim | exact law_end hx hb hr hlocks hI (by omega) (by omega) dL_law_335
  · intro h kc ks H locs ls nc ns hw hI hkc hks hl
    refine lv_iconst (v := 0) hx hb dL_law_351 (by decide) ?_
    first | exact hw.elim | exact law_end hx hb hr hlocks hI (by omega) (by omega) dL_law_352
  · intro h kc ks H locs ls nc ns hw hI hkc hks hl
    refine lv_iconst (v := 0) hx hb dL_law_414 (by decide) ?_
    first | exact hw.elim | exact law_end hx hb hr hlocks hI (by omega) (by omega) dL_law_415
  · intro h kc ks H locs ls nc ns hw hI hkc hks hl
    refine lv_iconst (v := 0) hx hb dL_law_431 (by decide) ?_
    first | exact hw.elim | exact law_end hx hb hr hlocks hI (by omega) (by omega) dL_law_432
  · intro h kc ks H locs ls nc ns hw hI hkc hks hl
    refine lv_iconst (v := 0) hx hb dL_law_506 (by decide) ?_
    first | exact hw.elim | exact law_end hx hb hr hlocks hI (by omega) (by omega) dL_law_507
  · intro h kc ks H locs ls nc ns hw hI hkc hks hl
    refine lv_iconst (v := 0) hx hb dL_law_523 (by decide) ?_
    first | exact hw.elim | exact law_end hx hb hr hlocks hI (by omega) (by omega) dL_law_524
  · intro h kc ks H locs ls nc ns hw hI hkc hks hl
    refine lv_iconst (v := 0) hx hb dL_law_610 (by decide) ?_
    first | exact hw.elim | exact law_end hx hb hr hlocks hI (by omega) (by omega) dL_law_611
  · intro h kc ks H locs ls nc ns hw hI hkc hks hl
    refine lv_iconst (v := 0) hx hb dL_law_627 (by decide) ?_
    first | exact hw.elim | exact law_end hx hb hr hlocks hI (by omega) (by omega) dL_law_628
  · intro h kc ks H locs ls nc ns hw hI hkc hks hl
    refine lv_iconst (v := 0) hx hb dL_law_702 (by decide) ?_
    first | exact hw.elim | exact law_end hx hb hr hlocks hI (by omega) (by omega) dL_law_703
  · intro h kc ks H locs ls nc ns hw hI hkc hks hl
    refine lv_iconst (v := 0) hx hb dL_law_718 (by decide) ?_
    first | exact hw.elim | exact law_end hx hb hr hlocks hI (by omega) (by omega) dL_law_719
  · intro h kc ks H locs ls nc ns hw hI hkc hks hl
    refine lv_iconst (v := 0) hx hb dL_law_805 (by decide) ?_
    first | exact hw.elim | exact law_end hx hb hr hlocks hI (by omega) (by omega) dL_law_806
  · intro h kc ks H locs ls nc ns hw hI hkc hks hl
    refine lv_iconst (v := 0) hx hb dL_law_822 (by decide) ?_
    first | exact hw.elim | exact law_end hx hb hr hlocks hI (by omega) (by omega) dL_law_823
  · intro h kc ks H locs ls nc ns hw hI hkc hks hl
    refine lv_iconst (v := 0) hx hb dL_law_850 (by decide) ?_
    first | exact hw.elim | exact law_end hx hb hr hlocks hI (by omega) (by omega) dL_law_851
  · intro h kc ks H locs ls nc ns hw hI hkc hks hl
    refine lv_iconst (v := 1) hx hb dL_law_858 (by decide) ?_
    first | exact hw.elim | exact law_end hx hb hr hlocks hI (by omega) (by omega) dL_law_859
end XLAW
