theorem sg_8 : (8 : Int32) ≤ nI 8 := nI_le (Nat.le_refl 8) (by decide)
theorem sg_16 : (16 : Int32) ≤ nI 16 := nI_le (Nat.le_refl 16) (by decide)
theorem sg_x93 {post : SX → Prop} {f l : Int32} {gm gr mk hr hc ce : Nat → Int32} : ∀ d j : Nat, j + d = 8 → ∀ hf : Nat → Int32, post (f, l, gm, gr, mk, sg_fill d j hf, hr, hc, ce) → wX_init_93 post f l (d + 1) (nI j) gm gr mk hf hr hc ce := by
  intro d
  induction d with
  | zero =>
    intro j hj hf h
    obtain rfl : j = 8 := by omega
    rw [wX_init_93]
    exact br_t sg_8 h
  | succ d ih =>
    intro j hj hf h
    rw [wX_init_93]
    exact br_f (nI_ge (b := 8) (by omega) (by decide)) ⟨vp_in_nI (by omega) (by omega), nm_r (by rw [nI_clamp (by omega)]) (nm_r (nI_1 j) (ih (j + 1) (by omega) _ h))⟩
theorem sg_x72 {post : SX → Prop} {f l : Int32} {gr mk hf hr hc ce : Nat → Int32} : ∀ d j : Nat, j + d = 16 → ∀ gm : Nat → Int32, (∃ n : Nat, wX_init_93 post f l n 0 (sg_fill d j gm) gr mk hf hr hc ce) → wX_init_72 post f l (d + 1) (nI j) gm gr mk hf hr hc ce := by
  intro d
  induction d with
  | zero =>
    intro j hj gm h
    obtain rfl : j = 16 := by omega
    rw [wX_init_72]
    exact br_t sg_16 h
  | succ d ih =>
    intro j hj gm h
    rw [wX_init_72]
    exact br_f (nI_ge (b := 16) (by omega) (by decide)) ⟨vp_in_nI (by omega) (by omega), nm_r (by rw [nI_clamp (by omega)]) (nm_r (nI_1 j) (ih (j + 1) (by omega) _ h))⟩
theorem sg_y91 {post : SY → Prop} {f l : Int32} {gm gr tc cg hr hc ce : Nat → Int32} : ∀ d j : Nat, j + d = 8 → ∀ hf : Nat → Int32, post (f, l, gm, gr, tc, cg, sg_fill d j hf, hr, hc, ce) → wY_init_91 post f l (d + 1) (nI j) gm gr tc cg hf hr hc ce := by
  intro d
  induction d with
  | zero =>
    intro j hj hf h
    obtain rfl : j = 8 := by omega
    rw [wY_init_91]
    exact br_t sg_8 h
  | succ d ih =>
    intro j hj hf h
    rw [wY_init_91]
    exact br_f (nI_ge (b := 8) (by omega) (by decide)) ⟨vp_in_nI (by omega) (by omega), nm_r (by rw [nI_clamp (by omega)]) (nm_r (nI_1 j) (ih (j + 1) (by omega) _ h))⟩
theorem sg_y70 {post : SY → Prop} {f l : Int32} {gr tc cg hf hr hc ce : Nat → Int32} : ∀ d j : Nat, j + d = 16 → ∀ gm : Nat → Int32, (∃ n : Nat, wY_init_91 post f l n 0 (sg_fill d j gm) gr tc cg hf hr hc ce) → wY_init_70 post f l (d + 1) (nI j) gm gr tc cg hf hr hc ce := by
  intro d
  induction d with
  | zero =>
    intro j hj gm h
    obtain rfl : j = 16 := by omega
    rw [wY_init_70]
    exact br_t sg_16 h
  | succ d ih =>
    intro j hj gm h
    rw [wY_init_70]
    exact br_f (nI_ge (b := 16) (by omega) (by decide)) ⟨vp_in_nI (by omega) (by omega), nm_r (by rw [nI_clamp (by omega)]) (nm_r (nI_1 j) (ih (j + 1) (by omega) _ h))⟩
/-- the rounds of age that are left, both sides: one count, and marks that keep what is kept -/
theorem sg_age {a : Nat} {f l : Int32} {gm gr hf hr hc ce cg : Nat → Int32} (ha : a < 2) : ∀ d j : Nat, j + d = 8 → ∀ (c : Int32) (mk tc : Nat → Int32), sg_J gm mk hf hc tc cg →
    ∃ (r : Int32) (mk' tc' : Nat → Int32), sg_J gm mk' hf hc tc' cg ∧
      (∀ post : Int32 → SX → Prop, post r (f, l, gm, gr, mk', hf, hr, hc, ce) → wX_age_13 post (nI a) f l (d + 1) c (nI j) gm gr mk hf hr hc ce) ∧
      (∀ post : Int32 → SY → Prop, post r (f, l, gm, gr, tc', cg, hf, hr, hc, ce) → wY_age_14 post (nI a) f l (d + 1) c (nI j) gm gr tc cg hf hr hc ce) := by
  intro d
  induction d with
  | zero =>
    intro j hj c mk tc J
    obtain rfl : j = 8 := by omega
    refine ⟨c, mk, tc, J, fun post h => ?_, fun post h => ?_⟩
    · rw [wX_age_13]
      exact br_t sg_8 h
    · rw [wY_age_14]
      exact br_t sg_8 h
  | succ d ih =>
    intro j hj c mk tc J
    have h8 : ¬ (8 : Int32) ≤ nI j := nI_ge (b := 8) (by omega) (by decide)
    have hi : vp_in (nI (a * 8 + j)) 16 := vp_in_nI (by omega) (by omega)
    have ey := sg_eY a ha j (by omega)
    rcases sg_Jbit J (nI (a * 8 + j)).toNatClampNeg with ⟨x0, y0⟩ | ⟨x0, y0⟩
    · obtain ⟨r, mk', tc', J', hX, hY⟩ := ih (j + 1) (by omega) c mk tc J
      refine ⟨r, mk', tc', J', fun post h => ?_, fun post h => ?_⟩
      · rw [wX_age_13]
        exact br_f h8 (sg_ge ha (by omega) ⟨hi, br_t x0 (nm_r (nI_1 j) (hX post h))⟩)
      · rw [wY_age_14]
        unfold wY_age_37
        dsimp only
        rw [ey]
        exact br_f h8 ⟨hi, br_t y0 ⟨hi, nm_r (by rw [sg_b0]; exact sg_upE y0) (nm_r (nI_1 j) (hY post h))⟩⟩
    · obtain ⟨r, mk', tc', J', hX, hY⟩ := ih (j + 1) (by omega) (c + 1) _ _ (sg_Jage J (nI (a * 8 + j)).toNatClampNeg)
      refine ⟨r, mk', tc', J', fun post h => ?_, fun post h => ?_⟩
      · rw [wX_age_13]
        exact br_f h8 (sg_ge ha (by omega) ⟨hi, br_f x0 (nm_e ⟨hi, hi, nm_e (nm_r (nI_1 j) (hX post h))⟩)⟩)
      · rw [wY_age_14]
        unfold wY_age_37
        dsimp only
        rw [ey]
        exact br_f h8 ⟨hi, br_f y0 (nm_e ⟨hi, nm_r (by rw [sg_b0]) (nm_r (nI_1 j) (hY post h))⟩)⟩
