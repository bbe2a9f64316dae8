theorem i_vc_last {k : Nat} {u : SX} {v : SY} (I : i_Rel k u v) (hk : k + 5 ≤ 2560) : wpX_last (fun r => wpY_last (fun r' => r' = r ∧ i_Rel (k + 5) u v) v) u := by
  have K := i_up I
  obtain ⟨s, l, gm, gr, mk, hf, hr, hc, ce, tc, cg, rfl, rfl, hs, J⟩ := I
  unfold wpX_last wpY_last
  dsimp only
  exact ⟨rfl, K⟩
theorem i_vc_marks {k : Nat} {u : SX} {v : SY} (I : i_Rel k u v) (hk : k + 5 ≤ 2560) (v1 : Int32) (v2 : Int32) : wpX_marks (fun r => wpY_marks (fun r' => r' = r ∧ i_Rel (k + 5) u v) v v1 v2) u v1 v2 := by
  have K := i_up I
  obtain ⟨s, l, gm, gr, mk, hf, hr, hc, ce, tc, cg, rfl, rfl, hs, J⟩ := I
  unfold wpX_marks wpY_marks wY_marks_51
  dsimp only
  rcases sg_ix v1 2 (by decide) with ⟨a, ha, rfl⟩ | o1
  · rcases sg_ix v2 8 (by decide) with ⟨b, hb, rfl⟩ | o2
    · have hi : vp_in (nI (a * 8 + b)) 16 := vp_in_nI (by omega) (by omega)
      refine sg_spT ha (br_f (by decide) (sg_paT hb (br_f (by decide) (sg_ge ha hb ⟨hi, ?_⟩))))
      refine sg_oI 1 rfl (by omega) (by decide) (br_t rfl (sg_oI 7 rfl (by omega) (by decide) (br_t rfl (nm_r (sg_eY a ha b hb) ⟨hi, ?_⟩))))
      rcases J.1 (nI (a * 8 + b)).toNatClampNeg with g | ⟨m, hm, g⟩
      · have g0 : ¬ 0 ≤ gm (nI (a * 8 + b)).toNatClampNeg := by
          rw [g]
          decide
        exact br_f g0 ⟨(J.2.2.2.1 _ g).symm, K⟩
      · have g0 : 0 ≤ gm (nI (a * 8 + b)).toNatClampNeg := by
          rw [g]
          exact nI_pos' (by omega)
        rcases J.2.2.1 (nI (a * 8 + b)).toNatClampNeg with ⟨t, c, m⟩ | ⟨t, c, m⟩ | ⟨t, c, m⟩ | ⟨t, c, m⟩
        · exact br_t g0 ⟨hi, br_t t ⟨hi, br_t c ⟨(by decide : (0 : Int32) + 0 = 0).trans m.symm, K⟩⟩⟩
        · exact br_t g0 ⟨hi, br_f (by rw [t]; decide) ⟨hi, br_t c ⟨(by decide : (1 : Int32) + 0 = 1).trans m.symm, K⟩⟩⟩
        · exact br_t g0 ⟨hi, br_t t ⟨hi, br_f (by rw [c]; decide) ⟨(by decide : (0 : Int32) + 2 = 2).trans m.symm, K⟩⟩⟩
        · exact br_t g0 ⟨hi, br_f (by rw [t]; decide) ⟨hi, br_f (by rw [c]; decide) ⟨(by decide : (1 : Int32) + 2 = 3).trans m.symm, K⟩⟩⟩
    · refine sg_spT ha (br_f (by decide) (sg_paF o2 (br_t rfl ?_)))
      exact sg_oI 1 rfl (by omega) (by decide) (br_t rfl (sg_oO 7 rfl o2 (by decide) (br_f (by decide) ⟨rfl, K⟩)))
  · refine sg_spF o1 (br_t rfl ?_)
    exact sg_oO 1 rfl o1 (by decide) (br_f (by decide) ⟨rfl, K⟩)
theorem i_vc_hostMark {k : Nat} {u : SX} {v : SY} (I : i_Rel k u v) (hk : k + 5 ≤ 2560) (v1 : Int32) : wpX_hostMark (fun r => wpY_hostMark (fun r' => r' = r ∧ i_Rel (k + 5) u v) v v1) u v1 := by
  have K := i_up I
  obtain ⟨s, l, gm, gr, mk, hf, hr, hc, ce, tc, cg, rfl, rfl, hs, J⟩ := I
  unfold wpX_hostMark wpY_hostMark
  dsimp only
  rcases sg_ix v1 8 (by decide) with ⟨a, ha, rfl⟩ | o1
  · have hi : vp_in (nI a) 8 := vp_in_nI ha (by omega)
    refine sg_paT ha (br_f (by decide) ⟨hi, ?_⟩)
    refine sg_oI 7 rfl (by omega) (by decide) (br_t rfl ⟨hi, ?_⟩)
    rcases J.2.1 (nI a).toNatClampNeg with g | ⟨m, hm, g⟩
    · have g0 : hf (nI a).toNatClampNeg < 0 := by
        rw [g]
        decide
      exact br_t g0 ⟨(J.2.2.2.2.2 _ g).symm, K⟩
    · have g0 : ¬ hf (nI a).toNatClampNeg < 0 := by
        rw [g]
        exact nI_pos (by omega)
      rcases J.2.2.2.2.1 (nI a).toNatClampNeg with q | q
      · exact br_f g0 ⟨hi, br_t q ⟨q.symm, K⟩⟩
      · exact br_f g0 ⟨hi, br_f (by rw [q]; decide) ⟨q.symm, K⟩⟩
  · refine sg_paF o1 (br_t rfl ?_)
    exact sg_oO 7 rfl o1 (by decide) (br_f (by decide) ⟨rfl, K⟩)
theorem i_vc_age {k : Nat} {u : SX} {v : SY} (I : i_Rel k u v) (hk : k + 5 ≤ 2560) (v1 : Int32) : wpX_age (fun r u' => wpY_age (fun r' v' => r' = r ∧ i_Rel (k + 5) u' v') v v1) u v1 := by
  have K := i_up I
  obtain ⟨s, l, gm, gr, mk, hf, hr, hc, ce, tc, cg, rfl, rfl, hs, J⟩ := I
  unfold wpX_age wpY_age
  dsimp only
  rcases sg_ix v1 2 (by decide) with ⟨a, ha, rfl⟩ | o1
  · obtain ⟨r, mk', tc', J', hX, hY⟩ := sg_age (f := nI s) (l := l) (gr := gr) (hr := hr) (ce := ce) ha 8 0 rfl 0 mk tc J
    refine sg_spT ha (br_f (by decide) ⟨9, hX _ ?_⟩)
    exact sg_oI 1 rfl (by omega) (by decide) (br_t rfl ⟨9, hY _ ⟨rfl, sg_rel hs J'⟩⟩)
  · refine sg_spF o1 (br_t rfl ?_)
    exact sg_oO 1 rfl o1 (by decide) (br_f (by decide) ⟨rfl, K⟩)
theorem i_vc_frameCell {k : Nat} {u : SX} {v : SY} (I : i_Rel k u v) (hk : k + 5 ≤ 2560) (v1 : Int32) (v2 : Int32) : wpX_frameCell (fun r => wpY_frameCell (fun r' => r' = r ∧ i_Rel (k + 5) u v) v v1 v2) u v1 v2 := by
  have K := i_up I
  obtain ⟨s, l, gm, gr, mk, hf, hr, hc, ce, tc, cg, rfl, rfl, hs, J⟩ := I
  unfold wpX_frameCell wpY_frameCell
  dsimp only
  rcases sg_ix v1 8 (by decide) with ⟨a, ha, rfl⟩ | o1
  · rcases sg_ix v2 4 (by decide) with ⟨b, hb, rfl⟩ | o2
    · have hi : vp_in (nI (a * 4 + b)) 32 := vp_in_nI (by omega) (by omega)
      refine sg_paT ha (br_f (by decide) (sg_ceT hb (br_f (by decide) (sg_ci ha hb ⟨hi, ?_⟩))))
      rw [sg_cY a ha b hb]
      exact sg_oI 7 rfl (by omega) (by decide) (br_t rfl (sg_oI 3 rfl (by omega) (by decide) (br_t rfl ⟨hi, rfl, K⟩)))
    · refine sg_paT ha (br_f (by decide) (sg_ceF o2 (br_t rfl ?_)))
      exact sg_oI 7 rfl (by omega) (by decide) (br_t rfl (sg_oO 3 rfl o2 (by decide) (br_f (by decide) ⟨rfl, K⟩)))
  · refine sg_paF o1 (br_t rfl ?_)
    exact sg_oO 7 rfl o1 (by decide) (br_f (by decide) ⟨rfl, K⟩)
