theorem i_vc0 : wpX_init (fun u => wpY_init (fun v => i_Rel 0 u v)) := by
  unfold wpX_init wpY_init
  exact ⟨17, sg_x72 16 0 rfl _ ⟨9, sg_x93 8 0 rfl _ ⟨17, sg_y70 16 0 rfl _ ⟨9, sg_y91 8 0 rfl _ (sg_rel (s := 0) (by decide) sg_J0)⟩⟩⟩⟩
theorem i_vc_setGuest {k : Nat} {u : SX} {v : SY} (I : i_Rel k u v) (hk : k + 5 ≤ 2560) (v1 : Int32) (v2 : Int32) (v3 : Int32) (v4 : Int32) : wpX_setGuest (fun r u' => wpY_setGuest (fun r' v' => r' = r ∧ i_Rel (k + 5) u' v') v v1 v2 v3 v4) u v1 v2 v3 v4 := by
  have K := i_up I
  obtain ⟨s, l, gm, gr, mk, hf, hr, hc, ce, tc, cg, rfl, rfl, hs, J⟩ := I
  unfold wpX_setGuest wpY_setGuest
  dsimp only
  rcases sg_ix v1 2 (by decide) with ⟨a, ha, rfl⟩ | o1
  · rcases sg_ix v2 8 (by decide) with ⟨b, hb, rfl⟩ | o2
    · rcases sg_tri v3 with hp | ⟨hn, o3⟩
      · have hi : vp_in (nI (a * 8 + b)) 16 := vp_in_nI (by omega) (by omega)
        obtain ⟨z, y⟩ := sg_pgY hp
        refine sg_spT ha (br_f (by decide) (sg_paT hb (br_f (by decide) (sg_pnT hp (br_f (by decide) (sg_ge ha hb ⟨hi, nm_e ⟨hi, nm_e ⟨hi, nm_e ?_⟩⟩⟩))))))
        exact sg_oI 1 rfl (by omega) (by decide) (br_t rfl (sg_oI 7 rfl (by omega) (by decide) (br_t rfl (br_f z (br_t y (nm_r (sg_eY a ha b hb) ⟨hi, nm_e ⟨hi, nm_e ⟨hi, nm_r (by rw [sg_b0]) ⟨hi, nm_r (by rw [sg_b0]) ⟨rfl, sg_rel hs (sg_Jguest J _ hp)⟩⟩⟩⟩⟩))))))
      · refine sg_spT ha (br_f (by decide) (sg_paT hb (br_f (by decide) (sg_pnF hn o3 (br_t rfl ?_)))))
        refine sg_oI 1 rfl (by omega) (by decide) (br_t rfl (sg_oI 7 rfl (by omega) (by decide) (br_t rfl ?_)))
        rcases sg_pgN hn o3 with z | ⟨z, y⟩
        · exact br_t z ⟨rfl, K⟩
        · exact br_f z (br_f y ⟨rfl, K⟩)
    · refine sg_spT ha (br_f (by decide) (sg_paF o2 (br_t rfl ?_)))
      exact sg_oI 1 rfl (by omega) (by decide) (br_t rfl (sg_oO 7 rfl o2 (by decide) (br_f (by decide) ⟨rfl, K⟩)))
  · refine sg_spF o1 (br_t rfl ?_)
    exact sg_oO 1 rfl o1 (by decide) (br_f (by decide) ⟨rfl, K⟩)
theorem i_vc_setHost {k : Nat} {u : SX} {v : SY} (I : i_Rel k u v) (hk : k + 5 ≤ 2560) (v1 : Int32) (v2 : Int32) (v3 : Int32) : wpX_setHost (fun r u' => wpY_setHost (fun r' v' => r' = r ∧ i_Rel (k + 5) u' v') v v1 v2 v3) u v1 v2 v3 := by
  have K := i_up I
  obtain ⟨s, l, gm, gr, mk, hf, hr, hc, ce, tc, cg, rfl, rfl, hs, J⟩ := I
  unfold wpX_setHost wpY_setHost
  dsimp only
  rcases sg_ix v1 8 (by decide) with ⟨a, ha, rfl⟩ | o1
  · rcases sg_tri v2 with hp | ⟨hn, o3⟩
    · have hi : vp_in (nI a) 8 := vp_in_nI ha (by omega)
      obtain ⟨z, y⟩ := sg_pgY hp
      refine sg_paT ha (br_f (by decide) (sg_pnT hp (br_f (by decide) ⟨hi, nm_e ⟨hi, nm_e ⟨hi, nm_e ?_⟩⟩⟩)))
      exact sg_oI 7 rfl (by omega) (by decide) (br_t rfl (br_f z (br_t y ⟨hi, nm_e ⟨hi, nm_e ⟨hi, nm_r (by rw [sg_b0]) ⟨rfl, sg_rel hs (sg_Jhost J _ hp)⟩⟩⟩⟩)))
    · refine sg_paT ha (br_f (by decide) (sg_pnF hn o3 (br_t rfl ?_)))
      refine sg_oI 7 rfl (by omega) (by decide) (br_t rfl ?_)
      rcases sg_pgN hn o3 with z | ⟨z, y⟩
      · exact br_t z ⟨rfl, K⟩
      · exact br_f z (br_f y ⟨rfl, K⟩)
  · refine sg_paF o1 (br_t rfl ?_)
    exact sg_oO 7 rfl o1 (by decide) (br_f (by decide) ⟨rfl, K⟩)
theorem i_vc_change {k : Nat} {u : SX} {v : SY} (I : i_Rel k u v) (hk : k + 5 ≤ 2560) (v1 : Int32) : wpX_change (fun u' => wpY_change (fun v' => i_Rel (k + 5) u' v') v v1) u v1 := by
  obtain ⟨s, l, gm, gr, mk, hf, hr, hc, ce, tc, cg, rfl, rfl, hs, J⟩ := I
  obtain ⟨j, hj, e⟩ := sg_and1 v1
  unfold wpX_change wpY_change
  dsimp only
  exact nm_r e (nm_r e (sg_rel hj J))
