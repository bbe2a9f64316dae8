theorem sg_tm1 {post : SX → Prop} {f l w : Int32} {gm gr mk hf hr hc ce : Nat → Int32} {x y : Int32} (hi : vp_in x 16) (hw : ¬ w = 2) (h : post (f, l, gm, gr, upd mk x.toNatClampNeg (mk x.toNatClampNeg ||| 1), hf, hr, hc, ce)) : wpX_turnMarksOn post (f, l, gm, gr, mk, hf, hr, hc, ce) x y w := by
  unfold wpX_turnMarksOn
  dsimp only
  exact ⟨hi, hi, nm_e (br_f hw h)⟩
theorem sg_tm2 {post : SX → Prop} {f l : Int32} {gm gr mk hf hr hc ce : Nat → Int32} {x y : Int32} (hi : vp_in x 16) (hm : vp_in y 8) (h : post (f, l, gm, gr, upd mk x.toNatClampNeg ((mk x.toNatClampNeg ||| 1) ||| 2), hf, hr, upd hc y.toNatClampNeg 1, ce)) : wpX_turnMarksOn post (f, l, gm, gr, mk, hf, hr, hc, ce) x y 2 := by
  unfold wpX_turnMarksOn
  dsimp only
  exact ⟨hi, hi, nm_e (br_t rfl ⟨hi, hi, nm_r (by rw [sg_up2, sg_us]) ⟨hm, nm_e h⟩⟩)⟩
/-- both sides reach alike: one answer, and states that keep what is kept -/
theorem sg_reach {s p : Nat} {l w : Int32} {gm gr mk hf hr hc ce tc cg : Nat → Int32} (hs : s < 2) (hp : p < 8) (J : sg_J gm mk hf hc tc cg) :
    ∃ (r : Int32) (mk' hc' tc' cg' : Nat → Int32), sg_J gm mk' hf hc' tc' cg' ∧ (r = -2 ∨ r = -3 ∨ ∃ f : Nat, f < 8 ∧ r = nI f) ∧
      (∀ post : Int32 → SX → Prop, post r (nI s, l, gm, gr, mk', hf, hr, hc', ce) → wpX_reachFrame post (nI s, l, gm, gr, mk, hf, hr, hc, ce) (nI p) w) ∧
      (∀ post : Int32 → SY → Prop, post r (nI s, l, gm, gr, tc', cg', hf, hr, hc', ce) → wpY_reach post (nI s, l, gm, gr, tc, cg, hf, hr, hc, ce) (nI p) w) := by
  have hi : vp_in (nI (s * 8 + p)) 16 := vp_in_nI (by omega) (by omega)
  unfold wpX_reachFrame wpY_reach
  dsimp only
  rcases J.1 (nI (s * 8 + p)).toNatClampNeg with g | ⟨m, hm, g⟩
  · refine ⟨-2, mk, hc, tc, cg, J, Or.inl rfl, fun post h => ?_, fun post h => ?_⟩
    · exact sg_ge hs hp ⟨hi, nm_r g (br_t rfl h)⟩
    · exact nm_r (sg_eY s hs p hp) ⟨hi, nm_r g (br_t (by decide) h)⟩
  · have hj : vp_in (nI m) 8 := vp_in_nI hm (by omega)
    have g0 : ¬ nI m < 0 := nI_pos (by omega)
    by_cases a : (gr (nI (s * 8 + p)).toNatClampNeg &&& w) = 0
    · refine ⟨-2, mk, hc, tc, cg, J, Or.inl rfl, fun post h => ?_, fun post h => ?_⟩
      · exact sg_ge hs hp ⟨hi, nm_r g (br_f (sg_nm1 m hm) ⟨hi, br_t a h⟩)⟩
      · exact nm_r (sg_eY s hs p hp) ⟨hi, nm_r g (br_f g0 ⟨hi, br_t a h⟩)⟩
    · rcases J.2.1 (nI m).toNatClampNeg with b | ⟨f, hf8, b⟩
      · have b0 : hf (nI m).toNatClampNeg < 0 := by
          rw [b]
          decide
        refine ⟨-3, mk, hc, tc, cg, J, Or.inr (Or.inl rfl), fun post h => ?_, fun post h => ?_⟩
        · exact sg_ge hs hp ⟨hi, nm_r g (br_f (sg_nm1 m hm) ⟨hi, br_f a ⟨hj, nm_e (br_t b h)⟩⟩)⟩
        · exact nm_r (sg_eY s hs p hp) ⟨hi, nm_r g (br_f g0 ⟨hi, br_f a ⟨hj, br_t b0 h⟩⟩)⟩
      · have b0 : ¬ hf (nI m).toNatClampNeg < 0 := by
          rw [b]
          exact nI_pos (by omega)
        have b1 : ¬ hf (nI m).toNatClampNeg = -1 := by
          rw [b]
          exact sg_nm1 f hf8
        have g1 : ¬ gm (nI (s * 8 + p)).toNatClampNeg = -1 := by
          rw [g]
          exact sg_nm1 m hm
        by_cases c : (hr (nI m).toNatClampNeg &&& w) = 0
        · refine ⟨-3, mk, hc, tc, cg, J, Or.inr (Or.inl rfl), fun post h => ?_, fun post h => ?_⟩
          · exact sg_ge hs hp ⟨hi, nm_r g (br_f (sg_nm1 m hm) ⟨hi, br_f a ⟨hj, nm_e (br_f b1 ⟨hj, br_t c h⟩)⟩⟩)⟩
          · exact nm_r (sg_eY s hs p hp) ⟨hi, nm_r g (br_f g0 ⟨hi, br_f a ⟨hj, br_f b0 ⟨hj, br_t c h⟩⟩⟩)⟩
        · by_cases d : w = 2
          · subst d
            refine ⟨hf (nI m).toNatClampNeg, _, _, _, _, sg_Jwrite J g1 b1, Or.inr (Or.inr ⟨f, hf8, b⟩), fun post h => ?_, fun post h => ?_⟩
            · exact sg_ge hs hp ⟨hi, nm_r g (br_f (sg_nm1 m hm) ⟨hi, br_f a ⟨hj, nm_e (br_f b1 ⟨hj, br_f c (sg_tm2 hi hj h)⟩)⟩⟩)⟩
            · exact nm_r (sg_eY s hs p hp) ⟨hi, nm_r g (br_f g0 ⟨hi, br_f a ⟨hj, br_f b0 ⟨hj, br_f c ⟨hi, nm_r (by rw [sg_b1]) (br_t rfl ⟨hi, nm_r (by rw [sg_b1]) ⟨hj, nm_r (by rw [sg_b1]) ⟨hj, h⟩⟩⟩)⟩⟩⟩⟩)⟩
          · refine ⟨hf (nI m).toNatClampNeg, _, _, _, _, sg_Jtouch J g1, Or.inr (Or.inr ⟨f, hf8, b⟩), fun post h => ?_, fun post h => ?_⟩
            · exact sg_ge hs hp ⟨hi, nm_r g (br_f (sg_nm1 m hm) ⟨hi, br_f a ⟨hj, nm_e (br_f b1 ⟨hj, br_f c (sg_tm1 hi d h)⟩)⟩⟩)⟩
            · exact nm_r (sg_eY s hs p hp) ⟨hi, nm_r g (br_f g0 ⟨hi, br_f a ⟨hj, br_f b0 ⟨hj, br_f c ⟨hi, nm_r (by rw [sg_b1]) (br_f d ⟨hj, h⟩)⟩⟩⟩⟩)⟩
