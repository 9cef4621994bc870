section A7X
def wp_A7_fresh (h0 : xH) (x0 : Nat) (x1 : Int32) (post : xH → Prop) : Prop := ∃ (q : Nat → Nat) (th : Int32) (sz : Int32) (sd : Int32) (ss : Int32) (pr : Int32) (me : Int32) (ab : Nat → Int32) (be : Nat → Int32) (pi : Nat → Int32) (le : Nat → Int32) (sg : Nat → Int32) (wo : Nat → Int32), x0 = q 0 ∧ ap7 q ∧ R7 h0 q th sz sd ss pr me ab be pi le sg wo ∧ wp_X7_fresh sz sd pr me ab be x1 (fun (sz1 : Int32) (sd1 : Int32) (pr1 : Int32) (me1 : Int32) (ab1 : Nat → Int32) (be1 : Nat → Int32) => ∀ h1 : xH, (∀ b, ¬ A7 q b → h1 b = h0 b) → R7 h1 q th sz1 sd1 ss pr1 me1 ab1 be1 pi le sg wo → post h1)
theorem m_A7_fresh (l : Launch) (G : xG) (h0 : xH) (x0 : Nat) (x1 : Int32) (post : xH → Prop) (hw : wp_A7_fresh h0 x0 x1 post) (sz : Nat) : Met l yX7_fresh (wu yX7_fresh cX7_fresh 3 none) rX7_fresh (x_Pc G [.ref x0, .int x1] h0 sz) (x_Qv G h0 sz post) 0 0 (x_A h0 sz) := by
  obtain ⟨q, a0, a1, a2, a3, a4, a5, a6, a7, a8, a9, a10, a11, e0, hap, h7, hw⟩ := hw
  subst e0
  refine Met.imp (m_X7_fresh l G.1 (G.2 0) q a0 a1 a2 a3 a4 a5 a6 a7 a8 a9 a10 a11 x1 _ hw) (fun a s hp => ⟨hp.1, a7_pre hp.2.2.1 h7, hp.2.2.2.1.sub [0] rfl, hap⟩) (fun a s o t hp hq => ?_) (fun b hb => a7_free h7 hb)
  obtain ⟨rfl, hsz, hR, hK⟩ := hp
  subst hsz
  obtain ⟨⟨u, ho, hpost, hB⟩, hF⟩ := hq
  obtain ⟨h1, c1, r1, b1, f1⟩ := a7_back hR h7 hap hB hF
  exact ⟨⟨h1, ho, hpost h1 c1 r1, b1⟩, f1⟩
def wp_A7_thrown (h0 : xH) (x0 : Nat)  (post : Int32 → xH → Prop) : Prop := ∃ (q : Nat → Nat) (th : Int32) (sz : Int32) (sd : Int32) (ss : Int32) (pr : Int32) (me : Int32) (ab : Nat → Int32) (be : Nat → Int32) (pi : Nat → Int32) (le : Nat → Int32) (sg : Nat → Int32) (wo : Nat → Int32), x0 = q 0 ∧ ap7 q ∧ R7 h0 q th sz sd ss pr me ab be pi le sg wo ∧ wp_X7_thrown th (fun (r : Int32)  => ∀ h1 : xH, (∀ b, ¬ A7 q b → h1 b = h0 b) → R7 h1 q th sz sd ss pr me ab be pi le sg wo → post r h1)
theorem m_A7_thrown (l : Launch) (G : xG) (h0 : xH) (x0 : Nat)  (post : Int32 → xH → Prop) (hw : wp_A7_thrown h0 x0  post) (sz : Nat) : Met l yX7_thrown (wu yX7_thrown cX7_thrown 1 (some .int)) rX7_thrown (x_Pc G [.ref x0] h0 sz) (x_Qi G h0 sz post) 0 0 (x_A h0 sz) := by
  obtain ⟨q, a0, a1, a2, a3, a4, a5, a6, a7, a8, a9, a10, a11, e0, hap, h7, hw⟩ := hw
  subst e0
  refine Met.imp (m_X7_thrown l G.1 (G.2 0) q a0 a1 a2 a3 a4 a5 a6 a7 a8 a9 a10 a11  _ hw) (fun a s hp => ⟨hp.1, a7_pre hp.2.2.1 h7, hp.2.2.2.1.sub [0] rfl, hap⟩) (fun a s o t hp hq => ?_) (fun b hb => a7_free h7 hb)
  obtain ⟨rfl, hsz, hR, hK⟩ := hp
  subst hsz
  obtain ⟨⟨r, u, ho, hpost, hB⟩, hF⟩ := hq
  obtain ⟨h1, c1, r1, b1, f1⟩ := a7_back hR h7 hap hB hF
  exact ⟨⟨r, h1, ho, hpost h1 c1 r1, b1⟩, f1⟩
def wp_A7_begin (h0 : xH) (x0 : Nat) (x1 : Int32) (post : xH → Prop) : Prop := ∃ (q : Nat → Nat) (th : Int32) (sz : Int32) (sd : Int32) (ss : Int32) (pr : Int32) (me : Int32) (ab : Nat → Int32) (be : Nat → Int32) (pi : Nat → Int32) (le : Nat → Int32) (sg : Nat → Int32) (wo : Nat → Int32), x0 = q 0 ∧ ap7 q ∧ R7 h0 q th sz sd ss pr me ab be pi le sg wo ∧ wp_X7_begin th sz sd pr me ab be x1 (fun (th1 : Int32) (sz1 : Int32) (sd1 : Int32) (pr1 : Int32) (me1 : Int32) (ab1 : Nat → Int32) (be1 : Nat → Int32) => ∀ h1 : xH, (∀ b, ¬ A7 q b → h1 b = h0 b) → R7 h1 q th1 sz1 sd1 ss pr1 me1 ab1 be1 pi le sg wo → post h1)
theorem m_A7_begin (l : Launch) (G : xG) (h0 : xH) (x0 : Nat) (x1 : Int32) (post : xH → Prop) (hw : wp_A7_begin h0 x0 x1 post) (sz : Nat) : Met l yX7_begin (wu yX7_begin cX7_begin 2 none) rX7_begin (x_Pc G [.ref x0, .int x1] h0 sz) (x_Qv G h0 sz post) 0 0 (x_A h0 sz) := by
  obtain ⟨q, a0, a1, a2, a3, a4, a5, a6, a7, a8, a9, a10, a11, e0, hap, h7, hw⟩ := hw
  subst e0
  refine Met.imp (m_X7_begin l G.1 (G.2 0) q a0 a1 a2 a3 a4 a5 a6 a7 a8 a9 a10 a11 x1 _ hw) (fun a s hp => ⟨hp.1, a7_pre hp.2.2.1 h7, hp.2.2.2.1.sub [0] rfl, hap⟩) (fun a s o t hp hq => ?_) (fun b hb => a7_free h7 hb)
  obtain ⟨rfl, hsz, hR, hK⟩ := hp
  subst hsz
  obtain ⟨⟨u, ho, hpost, hB⟩, hF⟩ := hq
  obtain ⟨h1, c1, r1, b1, f1⟩ := a7_back hR h7 hap hB hF
  exact ⟨⟨h1, ho, hpost h1 c1 r1, b1⟩, f1⟩
def wp_A7_set (h0 : xH) (x0 : Nat) (x1 : Int32) (x2 : Int32) (x3 : Int32) (x4 : Int32) (x5 : Int32) (post : xH → Prop) : Prop := ∃ (q : Nat → Nat) (th : Int32) (sz : Int32) (sd : Int32) (ss : Int32) (pr : Int32) (me : Int32) (ab : Nat → Int32) (be : Nat → Int32) (pi : Nat → Int32) (le : Nat → Int32) (sg : Nat → Int32) (wo : Nat → Int32), x0 = q 0 ∧ ap7 q ∧ R7 h0 q th sz sd ss pr me ab be pi le sg wo ∧ wp_X7_set th sz ab be x1 x2 x3 x4 x5 (fun (th1 : Int32) (ab1 : Nat → Int32) (be1 : Nat → Int32) => ∀ h1 : xH, (∀ b, ¬ A7 q b → h1 b = h0 b) → R7 h1 q th1 sz sd ss pr me ab1 be1 pi le sg wo → post h1)
theorem m_A7_set (l : Launch) (G : xG) (h0 : xH) (x0 : Nat) (x1 : Int32) (x2 : Int32) (x3 : Int32) (x4 : Int32) (x5 : Int32) (post : xH → Prop) (hw : wp_A7_set h0 x0 x1 x2 x3 x4 x5 post) (sz : Nat) : Met l yX7_set (wu yX7_set cX7_set 6 none) rX7_set (x_Pc G [.ref x0, .int x1, .int x2, .int x3, .int x4, .int x5] h0 sz) (x_Qv G h0 sz post) 0 0 (x_A h0 sz) := by
  obtain ⟨q, a0, a1, a2, a3, a4, a5, a6, a7, a8, a9, a10, a11, e0, hap, h7, hw⟩ := hw
  subst e0
  refine Met.imp (m_X7_set l G.1 (G.2 0) q a0 a1 a2 a3 a4 a5 a6 a7 a8 a9 a10 a11 x1 x2 x3 x4 x5 _ hw) (fun a s hp => ⟨hp.1, a7_pre hp.2.2.1 h7, hp.2.2.2.1.sub [0] rfl, hap⟩) (fun a s o t hp hq => ?_) (fun b hb => a7_free h7 hb)
  obtain ⟨rfl, hsz, hR, hK⟩ := hp
  subst hsz
  obtain ⟨⟨u, ho, hpost, hB⟩, hF⟩ := hq
  obtain ⟨h1, c1, r1, b1, f1⟩ := a7_back hR h7 hap hB hF
  exact ⟨⟨h1, ho, hpost h1 c1 r1, b1⟩, f1⟩
def wp_A7_start (h0 : xH) (x0 : Nat)  (post : xH → Prop) : Prop := ∃ (q : Nat → Nat) (th : Int32) (sz : Int32) (sd : Int32) (ss : Int32) (pr : Int32) (me : Int32) (ab : Nat → Int32) (be : Nat → Int32) (pi : Nat → Int32) (le : Nat → Int32) (sg : Nat → Int32) (wo : Nat → Int32), x0 = q 0 ∧ ap7 q ∧ R7 h0 q th sz sd ss pr me ab be pi le sg wo ∧ wp_X7_start th sz sd ss pr me ab be pi le sg wo (fun (th1 : Int32) (sd1 : Int32) (ss1 : Int32) (pr1 : Int32) (me1 : Int32) (pi1 : Nat → Int32) (le1 : Nat → Int32) (sg1 : Nat → Int32) (wo1 : Nat → Int32) => ∀ h1 : xH, (∀ b, ¬ A7 q b → h1 b = h0 b) → R7 h1 q th1 sz sd1 ss1 pr1 me1 ab be pi1 le1 sg1 wo1 → post h1)
theorem m_A7_start (l : Launch) (G : xG) (h0 : xH) (x0 : Nat)  (post : xH → Prop) (hw : wp_A7_start h0 x0  post) (sz : Nat) : Met l yX7_start (wu yX7_start cX7_start 3 none) rX7_start (x_Pc G [.ref x0] h0 sz) (x_Qv G h0 sz post) 0 0 (x_A h0 sz) := by
  obtain ⟨q, a0, a1, a2, a3, a4, a5, a6, a7, a8, a9, a10, a11, e0, hap, h7, hw⟩ := hw
  subst e0
  refine Met.imp (m_X7_start l G.1 (G.2 0) q a0 a1 a2 a3 a4 a5 a6 a7 a8 a9 a10 a11  _ hw) (fun a s hp => ⟨hp.1, a7_pre hp.2.2.1 h7, hp.2.2.2.1.sub [0] rfl, hap⟩) (fun a s o t hp hq => ?_) (fun b hb => a7_free h7 hb)
  obtain ⟨rfl, hsz, hR, hK⟩ := hp
  subst hsz
  obtain ⟨⟨u, ho, hpost, hB⟩, hF⟩ := hq
  obtain ⟨h1, c1, r1, b1, f1⟩ := a7_back hR h7 hap hB hF
  exact ⟨⟨h1, ho, hpost h1 c1 r1, b1⟩, f1⟩
def wp_A7_predict (h0 : xH) (x0 : Nat)  (post : Int32 → xH → Prop) : Prop := ∃ (q : Nat → Nat) (th : Int32) (sz : Int32) (sd : Int32) (ss : Int32) (pr : Int32) (me : Int32) (ab : Nat → Int32) (be : Nat → Int32) (pi : Nat → Int32) (le : Nat → Int32) (sg : Nat → Int32) (wo : Nat → Int32), x0 = q 0 ∧ ap7 q ∧ R7 h0 q th sz sd ss pr me ab be pi le sg wo ∧ wp_X7_predict th sz sd pr ab be pi le sg wo (fun (r : Int32) (th1 : Int32) (pr1 : Int32) (pi1 : Nat → Int32) (le1 : Nat → Int32) (sg1 : Nat → Int32) (wo1 : Nat → Int32) => ∀ h1 : xH, (∀ b, ¬ A7 q b → h1 b = h0 b) → R7 h1 q th1 sz sd ss pr1 me ab be pi1 le1 sg1 wo1 → post r h1)
theorem m_A7_predict (l : Launch) (G : xG) (h0 : xH) (x0 : Nat)  (post : Int32 → xH → Prop) (hw : wp_A7_predict h0 x0  post) (sz : Nat) : Met l yX7_predict (wu yX7_predict cX7_predict 1 (some .int)) rX7_predict (x_Pc G [.ref x0] h0 sz) (x_Qi G h0 sz post) 0 0 (x_A h0 sz) := by
  obtain ⟨q, a0, a1, a2, a3, a4, a5, a6, a7, a8, a9, a10, a11, e0, hap, h7, hw⟩ := hw
  subst e0
  refine Met.imp (m_X7_predict l G.1 (G.2 0) q a0 a1 a2 a3 a4 a5 a6 a7 a8 a9 a10 a11  _ hw) (fun a s hp => ⟨hp.1, a7_pre hp.2.2.1 h7, hp.2.2.2.1.sub [0] rfl, hap⟩) (fun a s o t hp hq => ?_) (fun b hb => a7_free h7 hb)
  obtain ⟨rfl, hsz, hR, hK⟩ := hp
  subst hsz
  obtain ⟨⟨r, u, ho, hpost, hB⟩, hF⟩ := hq
  obtain ⟨h1, c1, r1, b1, f1⟩ := a7_back hR h7 hap hB hF
  exact ⟨⟨r, h1, ho, hpost h1 c1 r1, b1⟩, f1⟩
def wp_A7_measure (h0 : xH) (x0 : Nat) (x1 : Int32) (x2 : Int32) (post : Int32 → xH → Prop) : Prop := ∃ (q : Nat → Nat) (th : Int32) (sz : Int32) (sd : Int32) (ss : Int32) (pr : Int32) (me : Int32) (ab : Nat → Int32) (be : Nat → Int32) (pi : Nat → Int32) (le : Nat → Int32) (sg : Nat → Int32) (wo : Nat → Int32), x0 = q 0 ∧ ap7 q ∧ R7 h0 q th sz sd ss pr me ab be pi le sg wo ∧ wp_X7_measure th sz sd me ab be pi le sg wo x1 x2 (fun (r : Int32) (th1 : Int32) (me1 : Int32) (pi1 : Nat → Int32) (le1 : Nat → Int32) (sg1 : Nat → Int32) (wo1 : Nat → Int32) => ∀ h1 : xH, (∀ b, ¬ A7 q b → h1 b = h0 b) → R7 h1 q th1 sz sd ss pr me1 ab be pi1 le1 sg1 wo1 → post r h1)
theorem m_A7_measure (l : Launch) (G : xG) (h0 : xH) (x0 : Nat) (x1 : Int32) (x2 : Int32) (post : Int32 → xH → Prop) (hw : wp_A7_measure h0 x0 x1 x2 post) (sz : Nat) : Met l yX7_measure (wu yX7_measure cX7_measure 3 (some .int)) rX7_measure (x_Pc G [.ref x0, .int x1, .int x2] h0 sz) (x_Qi G h0 sz post) 0 0 (x_A h0 sz) := by
  obtain ⟨q, a0, a1, a2, a3, a4, a5, a6, a7, a8, a9, a10, a11, e0, hap, h7, hw⟩ := hw
  subst e0
  refine Met.imp (m_X7_measure l G.1 (G.2 0) q a0 a1 a2 a3 a4 a5 a6 a7 a8 a9 a10 a11 x1 x2 _ hw) (fun a s hp => ⟨hp.1, a7_pre hp.2.2.1 h7, hp.2.2.2.1.sub [0] rfl, hap⟩) (fun a s o t hp hq => ?_) (fun b hb => a7_free h7 hb)
  obtain ⟨rfl, hsz, hR, hK⟩ := hp
  subst hsz
  obtain ⟨⟨r, u, ho, hpost, hB⟩, hF⟩ := hq
  obtain ⟨h1, c1, r1, b1, f1⟩ := a7_back hR h7 hap hB hF
  exact ⟨⟨r, h1, ho, hpost h1 c1 r1, b1⟩, f1⟩
def wp_A7_sign (h0 : xH) (x0 : Nat) (x1 : Int32) (x2 : Int32) (x3 : Int32) (post : Int32 → xH → Prop) : Prop := ∃ (q : Nat → Nat) (th : Int32) (sz : Int32) (sd : Int32) (ss : Int32) (pr : Int32) (me : Int32) (ab : Nat → Int32) (be : Nat → Int32) (pi : Nat → Int32) (le : Nat → Int32) (sg : Nat → Int32) (wo : Nat → Int32), x0 = q 0 ∧ ap7 q ∧ R7 h0 q th sz sd ss pr me ab be pi le sg wo ∧ wp_X7_sign th sz sd me sg x1 x2 x3 (fun (r : Int32) (th1 : Int32) => ∀ h1 : xH, (∀ b, ¬ A7 q b → h1 b = h0 b) → R7 h1 q th1 sz sd ss pr me ab be pi le sg wo → post r h1)
theorem m_A7_sign (l : Launch) (G : xG) (h0 : xH) (x0 : Nat) (x1 : Int32) (x2 : Int32) (x3 : Int32) (post : Int32 → xH → Prop) (hw : wp_A7_sign h0 x0 x1 x2 x3 post) (sz : Nat) : Met l yX7_sign (wu yX7_sign cX7_sign 5 (some .int)) rX7_sign (x_Pc G [.ref x0, .int x1, .int x2, .int x3] h0 sz) (x_Qi G h0 sz post) 0 0 (x_A h0 sz) := by
  obtain ⟨q, a0, a1, a2, a3, a4, a5, a6, a7, a8, a9, a10, a11, e0, hap, h7, hw⟩ := hw
  subst e0
  refine Met.imp (m_X7_sign l G.1 (G.2 0) q a0 a1 a2 a3 a4 a5 a6 a7 a8 a9 a10 a11 x1 x2 x3 _ hw) (fun a s hp => ⟨hp.1, a7_pre hp.2.2.1 h7, hp.2.2.2.1.sub [0] rfl, hap⟩) (fun a s o t hp hq => ?_) (fun b hb => a7_free h7 hb)
  obtain ⟨rfl, hsz, hR, hK⟩ := hp
  subst hsz
  obtain ⟨⟨r, u, ho, hpost, hB⟩, hF⟩ := hq
  obtain ⟨h1, c1, r1, b1, f1⟩ := a7_back hR h7 hap hB hF
  exact ⟨⟨r, h1, ho, hpost h1 c1 r1, b1⟩, f1⟩
def wp_A7_pieces (h0 : xH) (x0 : Nat) (x1 : Int32) (x2 : Int32) (x3 : Int32) (x4 : Int32) (post : Int32 → xH → Prop) : Prop := ∃ (q : Nat → Nat) (th : Int32) (sz : Int32) (sd : Int32) (ss : Int32) (pr : Int32) (me : Int32) (ab : Nat → Int32) (be : Nat → Int32) (pi : Nat → Int32) (le : Nat → Int32) (sg : Nat → Int32) (wo : Nat → Int32), x0 = q 0 ∧ ap7 q ∧ R7 h0 q th sz sd ss pr me ab be pi le sg wo ∧ wp_X7_pieces th sz sd me le x1 x2 x3 x4 (fun (r : Int32) (th1 : Int32) => ∀ h1 : xH, (∀ b, ¬ A7 q b → h1 b = h0 b) → R7 h1 q th1 sz sd ss pr me ab be pi le sg wo → post r h1)
theorem m_A7_pieces (l : Launch) (G : xG) (h0 : xH) (x0 : Nat) (x1 : Int32) (x2 : Int32) (x3 : Int32) (x4 : Int32) (post : Int32 → xH → Prop) (hw : wp_A7_pieces h0 x0 x1 x2 x3 x4 post) (sz : Nat) : Met l yX7_pieces (wu yX7_pieces cX7_pieces 6 (some .int)) rX7_pieces (x_Pc G [.ref x0, .int x1, .int x2, .int x3, .int x4] h0 sz) (x_Qi G h0 sz post) 0 0 (x_A h0 sz) := by
  obtain ⟨q, a0, a1, a2, a3, a4, a5, a6, a7, a8, a9, a10, a11, e0, hap, h7, hw⟩ := hw
  subst e0
  refine Met.imp (m_X7_pieces l G.1 (G.2 0) q a0 a1 a2 a3 a4 a5 a6 a7 a8 a9 a10 a11 x1 x2 x3 x4 _ hw) (fun a s hp => ⟨hp.1, a7_pre hp.2.2.1 h7, hp.2.2.2.1.sub [0] rfl, hap⟩) (fun a s o t hp hq => ?_) (fun b hb => a7_free h7 hb)
  obtain ⟨rfl, hsz, hR, hK⟩ := hp
  subst hsz
  obtain ⟨⟨r, u, ho, hpost, hB⟩, hF⟩ := hq
  obtain ⟨h1, c1, r1, b1, f1⟩ := a7_back hR h7 hap hB hF
  exact ⟨⟨r, h1, ho, hpost h1 c1 r1, b1⟩, f1⟩
def wp_A7_piece (h0 : xH) (x0 : Nat) (x1 : Int32) (x2 : Int32) (x3 : Int32) (x4 : Int32) (x5 : Int32) (post : Int32 → xH → Prop) : Prop := ∃ (q : Nat → Nat) (th : Int32) (sz : Int32) (sd : Int32) (ss : Int32) (pr : Int32) (me : Int32) (ab : Nat → Int32) (be : Nat → Int32) (pi : Nat → Int32) (le : Nat → Int32) (sg : Nat → Int32) (wo : Nat → Int32), x0 = q 0 ∧ ap7 q ∧ R7 h0 q th sz sd ss pr me ab be pi le sg wo ∧ wp_X7_piece th sz sd me pi le x1 x2 x3 x4 x5 (fun (r : Int32) (th1 : Int32) => ∀ h1 : xH, (∀ b, ¬ A7 q b → h1 b = h0 b) → R7 h1 q th1 sz sd ss pr me ab be pi le sg wo → post r h1)
theorem m_A7_piece (l : Launch) (G : xG) (h0 : xH) (x0 : Nat) (x1 : Int32) (x2 : Int32) (x3 : Int32) (x4 : Int32) (x5 : Int32) (post : Int32 → xH → Prop) (hw : wp_A7_piece h0 x0 x1 x2 x3 x4 x5 post) (sz : Nat) : Met l yX7_piece (wu yX7_piece cX7_piece 7 (some .int)) rX7_piece (x_Pc G [.ref x0, .int x1, .int x2, .int x3, .int x4, .int x5] h0 sz) (x_Qi G h0 sz post) 0 0 (x_A h0 sz) := by
  obtain ⟨q, a0, a1, a2, a3, a4, a5, a6, a7, a8, a9, a10, a11, e0, hap, h7, hw⟩ := hw
  subst e0
  refine Met.imp (m_X7_piece l G.1 (G.2 0) q a0 a1 a2 a3 a4 a5 a6 a7 a8 a9 a10 a11 x1 x2 x3 x4 x5 _ hw) (fun a s hp => ⟨hp.1, a7_pre hp.2.2.1 h7, hp.2.2.2.1.sub [0] rfl, hap⟩) (fun a s o t hp hq => ?_) (fun b hb => a7_free h7 hb)
  obtain ⟨rfl, hsz, hR, hK⟩ := hp
  subst hsz
  obtain ⟨⟨r, u, ho, hpost, hB⟩, hF⟩ := hq
  obtain ⟨h1, c1, r1, b1, f1⟩ := a7_back hR h7 hap hB hF
  exact ⟨⟨r, h1, ho, hpost h1 c1 r1, b1⟩, f1⟩
def wp_A7_scaled (h0 : xH) (x0 : Nat) (x1 : Int32) (x2 : Int32) (x3 : Int32) (x4 : Int32) (post : Int64 → xH → Prop) : Prop := ∃ (q : Nat → Nat) (th : Int32) (sz : Int32) (sd : Int32) (ss : Int32) (pr : Int32) (me : Int32) (ab : Nat → Int32) (be : Nat → Int32) (pi : Nat → Int32) (le : Nat → Int32) (sg : Nat → Int32) (wo : Nat → Int32), x0 = q 0 ∧ ap7 q ∧ R7 h0 q th sz sd ss pr me ab be pi le sg wo ∧ wp_X7_scaled th sz sd me pi le sg wo x1 x2 x3 x4 (fun (r : Int64) (th1 : Int32) (pi1 : Nat → Int32) (le1 : Nat → Int32) (wo1 : Nat → Int32) => ∀ h1 : xH, (∀ b, ¬ A7 q b → h1 b = h0 b) → R7 h1 q th1 sz sd ss pr me ab be pi1 le1 sg wo1 → post r h1)
theorem m_A7_scaled (l : Launch) (G : xG) (h0 : xH) (x0 : Nat) (x1 : Int32) (x2 : Int32) (x3 : Int32) (x4 : Int32) (post : Int64 → xH → Prop) (hw : wp_A7_scaled h0 x0 x1 x2 x3 x4 post) (sz : Nat) : Met l yX7_scaled (wu yX7_scaled cX7_scaled 10 (some .long)) rX7_scaled (x_Pc G [.ref x0, .int x1, .int x2, .int x3, .int x4] h0 sz) (x_Ql G h0 sz post) 0 0 (x_A h0 sz) := by
  obtain ⟨q, a0, a1, a2, a3, a4, a5, a6, a7, a8, a9, a10, a11, e0, hap, h7, hw⟩ := hw
  subst e0
  refine Met.imp (m_X7_scaled l G.1 (G.2 0) q a0 a1 a2 a3 a4 a5 a6 a7 a8 a9 a10 a11 x1 x2 x3 x4 _ hw) (fun a s hp => ⟨hp.1, a7_pre hp.2.2.1 h7, hp.2.2.2.1.sub [0] rfl, hap⟩) (fun a s o t hp hq => ?_) (fun b hb => a7_free h7 hb)
  obtain ⟨rfl, hsz, hR, hK⟩ := hp
  subst hsz
  obtain ⟨⟨r, u, ho, hpost, hB⟩, hF⟩ := hq
  obtain ⟨h1, c1, r1, b1, f1⟩ := a7_back hR h7 hap hB hF
  exact ⟨⟨r, h1, ho, hpost h1 c1 r1, b1⟩, f1⟩
def wp_A7_compare (h0 : xH) (x0 : Nat) (x1 : Int32) (x2 : Int32) (x3 : Int32) (x4 : Int32) (x5 : Int32) (post : Int32 → xH → Prop) : Prop := ∃ (q : Nat → Nat) (th : Int32) (sz : Int32) (sd : Int32) (ss : Int32) (pr : Int32) (me : Int32) (ab : Nat → Int32) (be : Nat → Int32) (pi : Nat → Int32) (le : Nat → Int32) (sg : Nat → Int32) (wo : Nat → Int32), x0 = q 0 ∧ ap7 q ∧ R7 h0 q th sz sd ss pr me ab be pi le sg wo ∧ wp_X7_compare th sz sd me pi le sg wo x1 x2 x3 x4 x5 (fun (r : Int32) (th1 : Int32) (pi1 : Nat → Int32) (le1 : Nat → Int32) (sg1 : Nat → Int32) (wo1 : Nat → Int32) => ∀ h1 : xH, (∀ b, ¬ A7 q b → h1 b = h0 b) → R7 h1 q th1 sz sd ss pr me ab be pi1 le1 sg1 wo1 → post r h1)
theorem m_A7_compare (l : Launch) (G : xG) (h0 : xH) (x0 : Nat) (x1 : Int32) (x2 : Int32) (x3 : Int32) (x4 : Int32) (x5 : Int32) (post : Int32 → xH → Prop) (hw : wp_A7_compare h0 x0 x1 x2 x3 x4 x5 post) (sz : Nat) : Met l yX7_compare (wu yX7_compare cX7_compare 7 (some .int)) rX7_compare (x_Pc G [.ref x0, .int x1, .int x2, .int x3, .int x4, .int x5] h0 sz) (x_Qi G h0 sz post) 0 0 (x_A h0 sz) := by
  obtain ⟨q, a0, a1, a2, a3, a4, a5, a6, a7, a8, a9, a10, a11, e0, hap, h7, hw⟩ := hw
  subst e0
  refine Met.imp (m_X7_compare l G.1 (G.2 0) q a0 a1 a2 a3 a4 a5 a6 a7 a8 a9 a10 a11 x1 x2 x3 x4 x5 _ hw) (fun a s hp => ⟨hp.1, a7_pre hp.2.2.1 h7, hp.2.2.2.1.sub [0] rfl, hap⟩) (fun a s o t hp hq => ?_) (fun b hb => a7_free h7 hb)
  obtain ⟨rfl, hsz, hR, hK⟩ := hp
  subst hsz
  obtain ⟨⟨r, u, ho, hpost, hB⟩, hF⟩ := hq
  obtain ⟨h1, c1, r1, b1, f1⟩ := a7_back hR h7 hap hB hF
  exact ⟨⟨r, h1, ho, hpost h1 c1 r1, b1⟩, f1⟩
def wp_A7_about (h0 : xH) (x0 : Nat) (x1 : Int32) (post : Int32 → xH → Prop) : Prop := ∃ (q : Nat → Nat) (th : Int32) (sz : Int32) (sd : Int32) (ss : Int32) (pr : Int32) (me : Int32) (ab : Nat → Int32) (be : Nat → Int32) (pi : Nat → Int32) (le : Nat → Int32) (sg : Nat → Int32) (wo : Nat → Int32), x0 = q 0 ∧ ap7 q ∧ R7 h0 q th sz sd ss pr me ab be pi le sg wo ∧ wp_X7_about th sz sd pr me x1 (fun (r : Int32) (th1 : Int32) => ∀ h1 : xH, (∀ b, ¬ A7 q b → h1 b = h0 b) → R7 h1 q th1 sz sd ss pr me ab be pi le sg wo → post r h1)
theorem m_A7_about (l : Launch) (G : xG) (h0 : xH) (x0 : Nat) (x1 : Int32) (post : Int32 → xH → Prop) (hw : wp_A7_about h0 x0 x1 post) (sz : Nat) : Met l yX7_about (wu yX7_about cX7_about 2 (some .int)) rX7_about (x_Pc G [.ref x0, .int x1] h0 sz) (x_Qi G h0 sz post) 0 0 (x_A h0 sz) := by
  obtain ⟨q, a0, a1, a2, a3, a4, a5, a6, a7, a8, a9, a10, a11, e0, hap, h7, hw⟩ := hw
  subst e0
  refine Met.imp (m_X7_about l G.1 (G.2 0) q a0 a1 a2 a3 a4 a5 a6 a7 a8 a9 a10 a11 x1 _ hw) (fun a s hp => ⟨hp.1, a7_pre hp.2.2.1 h7, hp.2.2.2.1.sub [0] rfl, hap⟩) (fun a s o t hp hq => ?_) (fun b hb => a7_free h7 hb)
  obtain ⟨rfl, hsz, hR, hK⟩ := hp
  subst hsz
  obtain ⟨⟨r, u, ho, hpost, hB⟩, hF⟩ := hq
  obtain ⟨h1, c1, r1, b1, f1⟩ := a7_back hR h7 hap hB hF
  exact ⟨⟨r, h1, ho, hpost h1 c1 r1, b1⟩, f1⟩
end A7X
