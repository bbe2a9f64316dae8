theorem i_vc_load {k : Nat} {u : SX} {v : SY} (I : i_Rel k u v) (hk : k + 5 ≤ 2560) (v1 : Int32) (v2 : Int32) : wpX_load (fun r u' => wpY_load (fun r' v' => r' = r ∧ i_Rel (k + 5) u' v') v v1 v2) u v1 v2 := by
  have K := i_up I
  obtain ⟨s, l, gm, gr, mk, hf, hr, hc, ce, tc, cg, rfl, rfl, hs, J⟩ := I
  unfold wpX_load wpY_load
  dsimp only
  rcases sg_ix v1 8 (by decide) with ⟨a, ha, rfl⟩ | o1
  · rcases sg_ix v2 4 (by decide) with ⟨b, hb, rfl⟩ | o2
    · obtain ⟨r, mk', hc', tc', cg', J', hr3, hX, hY⟩ := sg_reach (w := 1) (l := l) (gr := gr) (hr := hr) (ce := ce) hs ha J
      refine sg_paT ha (br_f (by decide) (sg_ceT hb (br_f (by decide) (hX _ ?_))))
      dsimp only
      rcases hr3 with rfl | rfl | ⟨f, hf8, rfl⟩
      · refine br_f (by decide) (sg_oI 7 rfl (by omega) (by decide) (br_t rfl (sg_oI 3 rfl (by omega) (by decide) (br_t rfl (hY _ ?_)))))
        dsimp only
        exact br_f (by decide) ⟨rfl, sg_rel hs J'⟩
      · refine br_f (by decide) (sg_oI 7 rfl (by omega) (by decide) (br_t rfl (sg_oI 3 rfl (by omega) (by decide) (br_t rfl (hY _ ?_)))))
        dsimp only
        exact br_f (by decide) ⟨rfl, sg_rel hs J'⟩
      · have hi : vp_in (nI (f * 4 + b)) 32 := vp_in_nI (by omega) (by omega)
        have f0 : (0 : Int32) ≤ nI f := nI_pos' (by omega)
        refine br_t f0 (sg_ci hf8 hb ⟨hi, nm_e ?_⟩)
        refine sg_oI 7 rfl (by omega) (by decide) (br_t rfl (sg_oI 3 rfl (by omega) (by decide) (br_t rfl (hY _ ?_))))
        dsimp only
        rw [sg_cY f hf8 b hb]
        exact br_t f0 ⟨hi, nm_e ⟨rfl, sg_rel hs J'⟩⟩
    · refine sg_paT ha (br_f (by decide) (sg_ceF o2 (br_t rfl ?_)))
      exact sg_oI 7 rfl (by omega) (by decide) (br_t rfl (sg_oO 3 rfl o2 (by decide) (br_f (by decide) ⟨rfl, K⟩)))
  · refine sg_paF o1 (br_t rfl ?_)
    exact sg_oO 7 rfl o1 (by decide) (br_f (by decide) ⟨rfl, K⟩)
theorem i_vc_store {k : Nat} {u : SX} {v : SY} (I : i_Rel k u v) (hk : k + 5 ≤ 2560) (v1 : Int32) (v2 : Int32) (v3 : Int32) : wpX_store (fun r u' => wpY_store (fun r' v' => r' = r ∧ i_Rel (k + 5) u' v') v v1 v2 v3) u v1 v2 v3 := by
  have K := i_up I
  obtain ⟨s, l, gm, gr, mk, hf, hr, hc, ce, tc, cg, rfl, rfl, hs, J⟩ := I
  unfold wpX_store wpY_store
  dsimp only
  rcases sg_ix v1 8 (by decide) with ⟨a, ha, rfl⟩ | o1
  · rcases sg_ix v2 4 (by decide) with ⟨b, hb, rfl⟩ | o2
    · obtain ⟨r, mk', hc', tc', cg', J', hr3, hX, hY⟩ := sg_reach (w := 2) (l := l) (gr := gr) (hr := hr) (ce := ce) hs ha J
      refine sg_paT ha (br_f (by decide) (sg_ceT hb (br_f (by decide) (hX _ ?_))))
      dsimp only
      rcases hr3 with rfl | rfl | ⟨f, hf8, rfl⟩
      · refine br_f (by decide) (sg_oI 7 rfl (by omega) (by decide) (br_t rfl (sg_oI 3 rfl (by omega) (by decide) (br_t rfl (hY _ ?_)))))
        dsimp only
        exact br_f (by decide) ⟨rfl, sg_rel hs J'⟩
      · refine br_f (by decide) (sg_oI 7 rfl (by omega) (by decide) (br_t rfl (sg_oI 3 rfl (by omega) (by decide) (br_t rfl (hY _ ?_)))))
        dsimp only
        exact br_f (by decide) ⟨rfl, sg_rel hs J'⟩
      · have hi : vp_in (nI (f * 4 + b)) 32 := vp_in_nI (by omega) (by omega)
        have f0 : (0 : Int32) ≤ nI f := nI_pos' (by omega)
        refine br_t f0 (sg_ci hf8 hb ⟨hi, nm_e ?_⟩)
        refine sg_oI 7 rfl (by omega) (by decide) (br_t rfl (sg_oI 3 rfl (by omega) (by decide) (br_t rfl (hY _ ?_))))
        dsimp only
        rw [sg_cY f hf8 b hb]
        exact br_t f0 ⟨hi, nm_e ⟨rfl, sg_rel hs J'⟩⟩
    · refine sg_paT ha (br_f (by decide) (sg_ceF o2 (br_t rfl ?_)))
      exact sg_oI 7 rfl (by omega) (by decide) (br_t rfl (sg_oO 3 rfl o2 (by decide) (br_f (by decide) ⟨rfl, K⟩)))
  · refine sg_paF o1 (br_t rfl ?_)
    exact sg_oO 7 rfl o1 (by decide) (br_f (by decide) ⟨rfl, K⟩)
theorem i_vc_fetch {k : Nat} {u : SX} {v : SY} (I : i_Rel k u v) (hk : k + 5 ≤ 2560) (v1 : Int32) : wpX_fetch (fun r u' => wpY_fetch (fun r' v' => r' = r ∧ i_Rel (k + 5) u' v') v v1) u v1 := by
  have K := i_up I
  obtain ⟨s, l, gm, gr, mk, hf, hr, hc, ce, tc, cg, rfl, rfl, hs, J⟩ := I
  unfold wpX_fetch wpY_fetch
  dsimp only
  rcases sg_ix v1 8 (by decide) with ⟨a, ha, rfl⟩ | o1
  · obtain ⟨r, mk', hc', tc', cg', J', hr3, hX, hY⟩ := sg_reach (w := 4) (l := l) (gr := gr) (hr := hr) (ce := ce) hs ha J
    refine sg_paT ha (br_f (by decide) (hX _ ?_))
    dsimp only
    refine sg_oI 7 rfl (by omega) (by decide) (br_t rfl (hY _ ?_))
    dsimp only
    exact ⟨rfl, sg_rel hs J'⟩
  · refine sg_paF o1 (br_t rfl ?_)
    exact sg_oO 7 rfl o1 (by decide) (br_f (by decide) ⟨rfl, K⟩)
