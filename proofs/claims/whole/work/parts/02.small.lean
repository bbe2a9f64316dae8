theorem pk_tn {n : Nat} (h : n < 2 ^ 32) : (nI n).toBitVec.toNat = n := Nat.mod_eq_of_lt h
theorem pk_and (x : Int32) {m : Int32} (k : Nat) (hm : m.toBitVec.toNat = 2 ^ k - 1) : x &&& m = nI (x.toBitVec.toNat % 2 ^ k) := by
  apply Int32.toBitVec_inj.mp
  apply BitVec.eq_of_toNat_eq
  rw [Int32.toBitVec_and, BitVec.toNat_and, hm, Nat.and_two_pow_sub_one_eq_mod]
  show _ = (BitVec.ofNat 32 _).toNat
  rw [BitVec.toNat_ofNat]
  exact (Nat.mod_eq_of_lt (Nat.lt_of_le_of_lt (Nat.mod_le _ _) x.toBitVec.isLt)).symm
theorem sg_and1 (x : Int32) : ∃ j : Nat, j < 2 ∧ x &&& 1 = nI j :=
  ⟨x.toBitVec.toNat % 2 ^ 1, Nat.mod_lt _ (by decide), pk_and x (m := 1) 1 (by decide)⟩
/-- a number outside 0 to n - 1 -/
def sg_out (x : Int32) (n : Nat) : Prop := x < 0 ∨ (¬ x < 0 ∧ nI n ≤ x)
theorem sg_nm1 : ∀ j : Nat, j < 8 → ¬ nI j = -1 := by decide +kernel
theorem sg_tri (x : Int32) : sg_pg x ∨ (¬ x = -1 ∧ sg_out x 8) := by
  by_cases h : x = -1
  · exact Or.inl (Or.inl h)
  · rcases sg_ix x 8 (by decide) with g | g
    · exact Or.inl (Or.inr g)
    · exact Or.inr ⟨h, g⟩
theorem sg_pg7 : ∀ j : Nat, j < 8 → ¬ nI j < -1 ∧ nI j ≤ 7 := by decide +kernel
theorem sg_pgY {x : Int32} (h : sg_pg x) : ¬ x < -1 ∧ x ≤ 7 := by
  rcases h with rfl | ⟨j, hj, rfl⟩
  · decide
  · exact sg_pg7 j hj
theorem sg_over {x : Int32} {n : Nat} (hn : n + 1 < 2 ^ 31) (h0 : ¬ x < 0) (h : nI (n + 1) ≤ x) : ¬ x ≤ nI n := by
  obtain ⟨j, hj, rfl⟩ := nI_of h0
  rw [nI_leI hn hj] at h
  rw [nI_leI hj (by omega)]
  omega
theorem sg_pgN {x : Int32} (hn : ¬ x = -1) (h : sg_out x 8) : x < -1 ∨ (¬ x < -1 ∧ ¬ x ≤ 7) := by
  have e0 : (0 : Int32).toInt = 0 := by decide
  have e1 : (-1 : Int32).toInt = -1 := by decide
  rcases h with z | ⟨z, y⟩
  · refine Or.inl ?_
    have q : ¬ x.toInt = -1 := fun w => hn (Int32.toInt_inj.mp (w.trans e1.symm))
    rw [Int32.lt_iff_toInt_lt, e0] at z
    rw [Int32.lt_iff_toInt_lt, e1]
    omega
  · refine Or.inr ⟨?_, sg_over (n := 7) (by decide) z y⟩
    rw [Int32.lt_iff_toInt_lt, e0] at z
    rw [Int32.lt_iff_toInt_lt, e1]
    omega
theorem sg_spT {post : Int32 → Prop} {j : Nat} (hj : j < 2) (h : post 1) : wpX_isSpace post (nI j) :=
  br_f (nI_pos (by omega)) (br_f (nI_ge (b := 2) hj (by decide)) h)
theorem sg_spF {post : Int32 → Prop} {x : Int32} (hx : sg_out x 2) (h : post 0) : wpX_isSpace post x := by
  rcases hx with z | ⟨z, y⟩
  · exact br_t z h
  · exact br_f z (br_t y h)
theorem sg_paT {post : Int32 → Prop} {j : Nat} (hj : j < 8) (h : post 1) : wpX_isPage post (nI j) :=
  br_f (nI_pos (by omega)) (br_f (nI_ge (b := 8) hj (by decide)) h)
theorem sg_paF {post : Int32 → Prop} {x : Int32} (hx : sg_out x 8) (h : post 0) : wpX_isPage post x := by
  rcases hx with z | ⟨z, y⟩
  · exact br_t z h
  · exact br_f z (br_t y h)
theorem sg_ceT {post : Int32 → Prop} {j : Nat} (hj : j < 4) (h : post 1) : wpX_isCell post (nI j) :=
  br_f (nI_pos (by omega)) (br_f (nI_ge (b := 4) hj (by decide)) h)
theorem sg_ceF {post : Int32 → Prop} {x : Int32} (hx : sg_out x 4) (h : post 0) : wpX_isCell post x := by
  rcases hx with z | ⟨z, y⟩
  · exact br_t z h
  · exact br_f z (br_t y h)
theorem sg_pnT {post : Int32 → Prop} {x : Int32} (hx : sg_pg x) (h : post 1) : wpX_isPageOrNothing post x := by
  unfold wpX_isPageOrNothing
  rcases hx with rfl | ⟨j, hj, rfl⟩
  · exact br_t rfl h
  · exact br_f (sg_nm1 j hj) (sg_paT hj (br_f (by decide) h))
theorem sg_pnF {post : Int32 → Prop} {x : Int32} (hn : ¬ x = -1) (hx : sg_out x 8) (h : post 0) : wpX_isPageOrNothing post x := by
  unfold wpX_isPageOrNothing
  exact br_f hn (sg_paF hx (br_t rfl h))
theorem sg_ge {post : Int32 → Prop} {a b : Nat} (ha : a < 2) (hb : b < 8) (h : post (nI (a * 8 + b))) : wpX_guestEntry post (nI a) (nI b) := by
  unfold wpX_guestEntry
  rw [sg_eX a ha b hb]
  exact h
theorem sg_ci {post : Int32 → Prop} {a b : Nat} (ha : a < 8) (hb : b < 4) (h : post (nI (a * 4 + b))) : wpX_cellIndex post (nI a) (nI b) := by
  unfold wpX_cellIndex
  rw [sg_cX a ha b hb]
  exact h
theorem sg_oI {post : Int32 → Prop} {j : Nat} (n : Nat) {y : Int32} (hy : nI n = y) (hj : j ≤ n) (hn : n < 2 ^ 31) (h : post 0) : wpY_outside post (nI j) y := by
  subst hy
  exact br_f (nI_pos (by omega)) (br_t (nI_le hj hn) h)
theorem sg_oO {post : Int32 → Prop} {x : Int32} (n : Nat) {y : Int32} (hy : nI n = y) (hx : sg_out x (n + 1)) (hn : n + 1 < 2 ^ 31) (h : post 1) : wpY_outside post x y := by
  subst hy
  rcases hx with z | ⟨z, w⟩
  · exact br_t z h
  · exact br_f z (br_f (sg_over hn z w) h)
/-- the relation: the same tables, rights, host marks, cells, present space and last load; the marks told in two ways -/
def i_Rel (_ : Nat) (u : SX) (v : SY) : Prop :=
  ∃ (s : Nat) (l : Int32) (gm gr mk hf hr hc ce tc cg : Nat → Int32), u = (nI s, l, gm, gr, mk, hf, hr, hc, ce) ∧ v = (nI s, l, gm, gr, tc, cg, hf, hr, hc, ce) ∧ s < 2 ∧ sg_J gm mk hf hc tc cg
theorem i_up {k : Nat} {u : SX} {v : SY} (h : i_Rel k u v) : i_Rel (k + 5) u v := h
theorem sg_rel {k s : Nat} {l : Int32} {gm gr mk hf hr hc ce tc cg : Nat → Int32} (hs : s < 2) (J : sg_J gm mk hf hc tc cg) : i_Rel k (nI s, l, gm, gr, mk, hf, hr, hc, ce) (nI s, l, gm, gr, tc, cg, hf, hr, hc, ce) :=
  ⟨s, l, gm, gr, mk, hf, hr, hc, ce, tc, cg, rfl, rfl, hs, J⟩
