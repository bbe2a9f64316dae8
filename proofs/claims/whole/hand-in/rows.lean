section
theorem sg_us {f : Nat → Int32} {k : Nat} {x : Int32} : upd f k x k = x := if_pos rfl
theorem sg_un {f : Nat → Int32} {k j : Nat} {x : Int32} (h : j ≠ k) : upd f k x j = f j := if_neg h
theorem sg_all {P : Nat → Int32 → Prop} {f : Nat → Int32} {k : Nat} {x : Int32} (h : ∀ e, P e (f e)) (hx : P k x) : ∀ e, P e (upd f k x e) := by
  intro e
  by_cases c : e = k
  · subst c
    rw [sg_us]
    exact hx
  · rw [sg_un c]
    exact h e
theorem sg_b0 : vp_nar .boolean 0 = 0 := by decide
theorem sg_b1 : vp_nar .boolean 1 = 1 := by decide
/-- a number of a page, a middle page or a frame, or nothing -/
def sg_pg (x : Int32) : Prop := x = -1 ∨ ∃ j : Nat, j < 8 ∧ x = nI j
/-- the marks of an entry: the component keeps one number, the reference two -/
def sg_mk (t c m : Int32) : Prop := (t = 0 ∧ c = 0 ∧ m = 0) ∨ (t = 1 ∧ c = 0 ∧ m = 1) ∨ (t = 0 ∧ c = 1 ∧ m = 2) ∨ (t = 1 ∧ c = 1 ∧ m = 3)
theorem sg_mk0 : sg_mk 0 0 0 := Or.inl ⟨rfl, rfl, rfl⟩
theorem sg_mkT {t c m : Int32} (h : sg_mk t c m) : sg_mk 1 c (m ||| 1) := by
  rcases h with ⟨rfl, rfl, rfl⟩ | ⟨rfl, rfl, rfl⟩ | ⟨rfl, rfl, rfl⟩ | ⟨rfl, rfl, rfl⟩ <;> (unfold sg_mk; decide)
theorem sg_mkW {t c m : Int32} (h : sg_mk t c m) : sg_mk 1 1 ((m ||| 1) ||| 2) := by
  rcases h with ⟨rfl, rfl, rfl⟩ | ⟨rfl, rfl, rfl⟩ | ⟨rfl, rfl, rfl⟩ | ⟨rfl, rfl, rfl⟩ <;> (unfold sg_mk; decide)
theorem sg_mkA {t c m : Int32} (h : sg_mk t c m) : sg_mk 0 c (m &&& 2) := by
  rcases h with ⟨rfl, rfl, rfl⟩ | ⟨rfl, rfl, rfl⟩ | ⟨rfl, rfl, rfl⟩ | ⟨rfl, rfl, rfl⟩ <;> (unfold sg_mk; decide)
theorem sg_mkB {t c m : Int32} (h : sg_mk t c m) : ((m &&& 1) = 0 ∧ t = 0) ∨ (¬ (m &&& 1) = 0 ∧ ¬ t = 0) := by
  rcases h with ⟨rfl, rfl, rfl⟩ | ⟨rfl, rfl, rfl⟩ | ⟨rfl, rfl, rfl⟩ | ⟨rfl, rfl, rfl⟩ <;> decide
/-- what the two states keep, beside being the same: gm hf the tables, mk the component's marks, tc cg the reference's, hc the host's -/
def sg_J (gm mk hf hc tc cg : Nat → Int32) : Prop :=
  (∀ e, sg_pg (gm e)) ∧ (∀ e, sg_pg (hf e)) ∧ (∀ e, sg_mk (tc e) (cg e) (mk e)) ∧ (∀ e, gm e = -1 → mk e = 0) ∧ (∀ e, hc e = 0 ∨ hc e = 1) ∧ (∀ e, hf e = -1 → hc e = 0)
theorem sg_mkU {mk tc cg : Nat → Int32} {k : Nat} {t c m : Int32} (h : ∀ e, sg_mk (tc e) (cg e) (mk e)) (hx : sg_mk t c m) : ∀ e, sg_mk (upd tc k t e) (upd cg k c e) (upd mk k m e) := by
  intro e
  by_cases z : e = k
  · subst z
    rw [sg_us, sg_us, sg_us]
    exact hx
  · rw [sg_un z, sg_un z, sg_un z]
    exact h e
theorem sg_upE {f : Nat → Int32} {k : Nat} {x : Int32} (h : f k = x) : upd f k x = f := by
  funext e
  by_cases z : e = k
  · subst z
    rw [sg_us, h]
  · rw [sg_un z]
theorem sg_up2 {f : Nat → Int32} {k : Nat} {x y : Int32} : upd (upd f k x) k y = upd f k y := by
  funext e
  by_cases z : e = k
  · subst z
    rw [sg_us, sg_us]
  · rw [sg_un z, sg_un z, sg_un z]
theorem sg_Jguest {gm mk hf hc tc cg : Nat → Int32} (h : sg_J gm mk hf hc tc cg) (e : Nat) {x : Int32} (hx : sg_pg x) : sg_J (upd gm e x) (upd mk e 0) hf hc (upd tc e 0) (upd cg e 0) := by
  obtain ⟨h1, h2, h3, h4, h5, h6⟩ := h
  refine ⟨sg_all (P := fun _ y => sg_pg y) h1 hx, h2, sg_mkU h3 sg_mk0, ?_, h5, h6⟩
  intro j
  by_cases z : j = e
  · subst z
    intro _
    rw [sg_us]
  · rw [sg_un z, sg_un z]
    exact h4 j
theorem sg_Jhost {gm mk hf hc tc cg : Nat → Int32} (h : sg_J gm mk hf hc tc cg) (e : Nat) {x : Int32} (hx : sg_pg x) : sg_J gm mk (upd hf e x) (upd hc e 0) tc cg := by
  obtain ⟨h1, h2, h3, h4, h5, h6⟩ := h
  refine ⟨h1, sg_all (P := fun _ y => sg_pg y) h2 hx, h3, h4, sg_all (P := fun _ y => y = 0 ∨ y = 1) h5 (Or.inl rfl), ?_⟩
  intro j
  by_cases z : j = e
  · subst z
    intro _
    rw [sg_us]
  · rw [sg_un z, sg_un z]
    exact h6 j
theorem sg_Jtouch {gm mk hf hc tc cg : Nat → Int32} (h : sg_J gm mk hf hc tc cg) {e : Nat} (he : ¬ gm e = -1) : sg_J gm (upd mk e (mk e ||| 1)) hf hc (upd tc e 1) cg := by
  obtain ⟨h1, h2, h3, h4, h5, h6⟩ := h
  refine ⟨h1, h2, ?_, ?_, h5, h6⟩
  · have q := sg_mkU (k := e) h3 (sg_mkT (h3 e))
    rw [sg_upE (f := cg) rfl] at q
    exact q
  · intro j
    by_cases z : j = e
    · subst z
      intro b
      exact absurd b he
    · rw [sg_un z]
      exact h4 j
theorem sg_Jwrite {gm mk hf hc tc cg : Nat → Int32} (h : sg_J gm mk hf hc tc cg) {e m : Nat} (he : ¬ gm e = -1) (hm : ¬ hf m = -1) : sg_J gm (upd mk e ((mk e ||| 1) ||| 2)) hf (upd hc m 1) (upd tc e 1) (upd cg e 1) := by
  obtain ⟨h1, h2, h3, h4, h5, h6⟩ := h
  refine ⟨h1, h2, sg_mkU (k := e) h3 (sg_mkW (h3 e)), ?_, sg_all (P := fun _ y => y = 0 ∨ y = 1) h5 (Or.inr rfl), ?_⟩
  · intro j
    by_cases z : j = e
    · subst z
      intro b
      exact absurd b he
    · rw [sg_un z]
      exact h4 j
  · intro j
    by_cases z : j = m
    · subst z
      intro b
      exact absurd b hm
    · rw [sg_un z]
      exact h6 j
theorem sg_Jage {gm mk hf hc tc cg : Nat → Int32} (h : sg_J gm mk hf hc tc cg) (e : Nat) : sg_J gm (upd mk e (mk e &&& 2)) hf hc (upd tc e 0) cg := by
  obtain ⟨h1, h2, h3, h4, h5, h6⟩ := h
  refine ⟨h1, h2, ?_, ?_, h5, h6⟩
  · have q := sg_mkU (k := e) h3 (sg_mkA (h3 e))
    rw [sg_upE (f := cg) rfl] at q
    exact q
  · intro j
    by_cases z : j = e
    · subst z
      intro b
      rw [sg_us, h4 j b]
      decide
    · rw [sg_un z]
      exact h4 j
theorem sg_Jbit {gm mk hf hc tc cg : Nat → Int32} (h : sg_J gm mk hf hc tc cg) (e : Nat) : ((mk e &&& 1) = 0 ∧ tc e = 0) ∨ (¬ (mk e &&& 1) = 0 ∧ ¬ tc e = 0) := sg_mkB (h.2.2.1 e)
/-- a number within, or outside -/
theorem sg_ix (x : Int32) (n : Nat) (hn : n < 2 ^ 31) : (∃ j : Nat, j < n ∧ x = nI j) ∨ x < 0 ∨ (¬ x < 0 ∧ nI n ≤ x) := by
  by_cases h : x < 0
  · exact Or.inr (Or.inl h)
  · obtain ⟨j, hj, rfl⟩ := nI_of h
    by_cases h2 : j < n
    · exact Or.inl ⟨j, h2, rfl⟩
    · exact Or.inr (Or.inr ⟨h, nI_le (by omega) hj⟩)
theorem sg_eX : ∀ s : Nat, s < 2 → ∀ p : Nat, p < 8 → nI s * 8 + nI p = nI (s * 8 + p) := by decide +kernel
theorem sg_eY : ∀ s : Nat, s < 2 → ∀ p : Nat, p < 8 → 8 * nI s + nI p = nI (s * 8 + p) := by decide +kernel
theorem sg_cX : ∀ s : Nat, s < 8 → ∀ p : Nat, p < 4 → nI s * 4 + nI p = nI (s * 4 + p) := by decide +kernel
theorem sg_cY : ∀ s : Nat, s < 8 → ∀ p : Nat, p < 4 → 4 * nI s + nI p = nI (s * 4 + p) := by decide +kernel
/-- the two constructors' loops: -1 in the cells from j on, d of them -/
def sg_fill : Nat → Nat → (Nat → Int32) → Nat → Int32
  | 0, _, a => a
  | d + 1, j, a => sg_fill d (j + 1) (upd a j (-1))
theorem sg_fillP : ∀ (d j : Nat) (a : Nat → Int32), (∀ e, sg_pg (a e)) → ∀ e, sg_pg (sg_fill d j a e) := by
  intro d
  induction d with
  | zero => intro j a h; exact h
  | succ d ih =>
    intro j a h
    exact ih (j + 1) _ (sg_all (P := fun _ y => sg_pg y) h (Or.inl rfl))
theorem sg_J0 : sg_J (sg_fill 16 0 (fun _ => 0)) (fun _ => 0) (sg_fill 8 0 (fun _ => 0)) (fun _ => 0) (fun _ => 0) (fun _ => 0) :=
  ⟨sg_fillP 16 0 _ (fun _ => Or.inr ⟨0, by decide, rfl⟩), sg_fillP 8 0 _ (fun _ => Or.inr ⟨0, by decide, rfl⟩), fun _ => sg_mk0, fun _ _ => rfl, fun _ => Or.inl rfl, fun _ _ => rfl⟩
end
section
theorem pk_tn {n : Nat} (h : n < 2 ^ 32) : (nI n).toBitVec.toNat = n := Nat.mod_eq_of_lt h
theorem pk_and (x : Int32) {m : Int32} (k : Nat) (hm : m.toBitVec.toNat = 2 ^ k - 1) : x &&& m = nI (x.toBitVec.toNat % 2 ^ k) := by
  apply Int32.toBitVec_inj.mp
  apply BitVec.eq_of_toNat_eq
  rw [Int32.toBitVec_and, BitVec.toNat_and, hm, Nat.and_two_pow_sub_one_eq_mod]
  show _ = (BitVec.ofNat 32 _).toNat
  rw [BitVec.toNat_ofNat]
  exact (Nat.mod_eq_of_lt (Nat.lt_of_le_of_lt (Nat.mod_le _ _) x.toBitVec.isLt)).symm
theorem sg_and1 (x : Int32) : ∃ j : Nat, j < 2 ∧ x &&& 1 = nI j :=
  ⟨x.toBitVec.toNat % 2 ^ 1, Nat.mod_lt _ (by decide), pk_and x (m := 1) 1 (by decide)⟩
/-- a number outside 0 to n - 1 -/
def sg_out (x : Int32) (n : Nat) : Prop := x < 0 ∨ (¬ x < 0 ∧ nI n ≤ x)
theorem sg_nm1 : ∀ j : Nat, j < 8 → ¬ nI j = -1 := by decide +kernel
theorem sg_tri (x : Int32) : sg_pg x ∨ (¬ x = -1 ∧ sg_out x 8) := by
  by_cases h : x = -1
  · exact Or.inl (Or.inl h)
  · rcases sg_ix x 8 (by decide) with g | g
    · exact Or.inl (Or.inr g)
    · exact Or.inr ⟨h, g⟩
theorem sg_pg7 : ∀ j : Nat, j < 8 → ¬ nI j < -1 ∧ nI j ≤ 7 := by decide +kernel
theorem sg_pgY {x : Int32} (h : sg_pg x) : ¬ x < -1 ∧ x ≤ 7 := by
  rcases h with rfl | ⟨j, hj, rfl⟩
  · decide
  · exact sg_pg7 j hj
theorem sg_over {x : Int32} {n : Nat} (hn : n + 1 < 2 ^ 31) (h0 : ¬ x < 0) (h : nI (n + 1) ≤ x) : ¬ x ≤ nI n := by
  obtain ⟨j, hj, rfl⟩ := nI_of h0
  rw [nI_leI hn hj] at h
  rw [nI_leI hj (by omega)]
  omega
theorem sg_pgN {x : Int32} (hn : ¬ x = -1) (h : sg_out x 8) : x < -1 ∨ (¬ x < -1 ∧ ¬ x ≤ 7) := by
  have e0 : (0 : Int32).toInt = 0 := by decide
  have e1 : (-1 : Int32).toInt = -1 := by decide
  rcases h with z | ⟨z, y⟩
  · refine Or.inl ?_
    have q : ¬ x.toInt = -1 := fun w => hn (Int32.toInt_inj.mp (w.trans e1.symm))
    rw [Int32.lt_iff_toInt_lt, e0] at z
    rw [Int32.lt_iff_toInt_lt, e1]
    omega
  · refine Or.inr ⟨?_, sg_over (n := 7) (by decide) z y⟩
    rw [Int32.lt_iff_toInt_lt, e0] at z
    rw [Int32.lt_iff_toInt_lt, e1]
    omega
theorem sg_spT {post : Int32 → Prop} {j : Nat} (hj : j < 2) (h : post 1) : wpX_isSpace post (nI j) :=
  br_f (nI_pos (by omega)) (br_f (nI_ge (b := 2) hj (by decide)) h)
theorem sg_spF {post : Int32 → Prop} {x : Int32} (hx : sg_out x 2) (h : post 0) : wpX_isSpace post x := by
  rcases hx with z | ⟨z, y⟩
  · exact br_t z h
  · exact br_f z (br_t y h)
theorem sg_paT {post : Int32 → Prop} {j : Nat} (hj : j < 8) (h : post 1) : wpX_isPage post (nI j) :=
  br_f (nI_pos (by omega)) (br_f (nI_ge (b := 8) hj (by decide)) h)
theorem sg_paF {post : Int32 → Prop} {x : Int32} (hx : sg_out x 8) (h : post 0) : wpX_isPage post x := by
  rcases hx with z | ⟨z, y⟩
  · exact br_t z h
  · exact br_f z (br_t y h)
theorem sg_ceT {post : Int32 → Prop} {j : Nat} (hj : j < 4) (h : post 1) : wpX_isCell post (nI j) :=
  br_f (nI_pos (by omega)) (br_f (nI_ge (b := 4) hj (by decide)) h)
theorem sg_ceF {post : Int32 → Prop} {x : Int32} (hx : sg_out x 4) (h : post 0) : wpX_isCell post x := by
  rcases hx with z | ⟨z, y⟩
  · exact br_t z h
  · exact br_f z (br_t y h)
theorem sg_pnT {post : Int32 → Prop} {x : Int32} (hx : sg_pg x) (h : post 1) : wpX_isPageOrNothing post x := by
  unfold wpX_isPageOrNothing
  rcases hx with rfl | ⟨j, hj, rfl⟩
  · exact br_t rfl h
  · exact br_f (sg_nm1 j hj) (sg_paT hj (br_f (by decide) h))
theorem sg_pnF {post : Int32 → Prop} {x : Int32} (hn : ¬ x = -1) (hx : sg_out x 8) (h : post 0) : wpX_isPageOrNothing post x := by
  unfold wpX_isPageOrNothing
  exact br_f hn (sg_paF hx (br_t rfl h))
theorem sg_ge {post : Int32 → Prop} {a b : Nat} (ha : a < 2) (hb : b < 8) (h : post (nI (a * 8 + b))) : wpX_guestEntry post (nI a) (nI b) := by
  unfold wpX_guestEntry
  rw [sg_eX a ha b hb]
  exact h
theorem sg_ci {post : Int32 → Prop} {a b : Nat} (ha : a < 8) (hb : b < 4) (h : post (nI (a * 4 + b))) : wpX_cellIndex post (nI a) (nI b) := by
  unfold wpX_cellIndex
  rw [sg_cX a ha b hb]
  exact h
theorem sg_oI {post : Int32 → Prop} {j : Nat} (n : Nat) {y : Int32} (hy : nI n = y) (hj : j ≤ n) (hn : n < 2 ^ 31) (h : post 0) : wpY_outside post (nI j) y := by
  subst hy
  exact br_f (nI_pos (by omega)) (br_t (nI_le hj hn) h)
theorem sg_oO {post : Int32 → Prop} {x : Int32} (n : Nat) {y : Int32} (hy : nI n = y) (hx : sg_out x (n + 1)) (hn : n + 1 < 2 ^ 31) (h : post 1) : wpY_outside post x y := by
  subst hy
  rcases hx with z | ⟨z, w⟩
  · exact br_t z h
  · exact br_f z (br_f (sg_over hn z w) h)
/-- the relation: the same tables, rights, host marks, cells, present space and last load; the marks told in two ways -/
def i_Rel (_ : Nat) (u : SX) (v : SY) : Prop :=
  ∃ (s : Nat) (l : Int32) (gm gr mk hf hr hc ce tc cg : Nat → Int32), u = (nI s, l, gm, gr, mk, hf, hr, hc, ce) ∧ v = (nI s, l, gm, gr, tc, cg, hf, hr, hc, ce) ∧ s < 2 ∧ sg_J gm mk hf hc tc cg
theorem i_up {k : Nat} {u : SX} {v : SY} (h : i_Rel k u v) : i_Rel (k + 5) u v := h
theorem sg_rel {k s : Nat} {l : Int32} {gm gr mk hf hr hc ce tc cg : Nat → Int32} (hs : s < 2) (J : sg_J gm mk hf hc tc cg) : i_Rel k (nI s, l, gm, gr, mk, hf, hr, hc, ce) (nI s, l, gm, gr, tc, cg, hf, hr, hc, ce) :=
  ⟨s, l, gm, gr, mk, hf, hr, hc, ce, tc, cg, rfl, rfl, hs, J⟩
end
section
theorem sg_tm1 {post : SX → Prop} {f l w : Int32} {gm gr mk hf hr hc ce : Nat → Int32} {x y : Int32} (hi : vp_in x 16) (hw : ¬ w = 2) (h : post (f, l, gm, gr, upd mk x.toNatClampNeg (mk x.toNatClampNeg ||| 1), hf, hr, hc, ce)) : wpX_turnMarksOn post (f, l, gm, gr, mk, hf, hr, hc, ce) x y w := by
  unfold wpX_turnMarksOn
  dsimp only
  exact ⟨hi, hi, nm_e (br_f hw h)⟩
theorem sg_tm2 {post : SX → Prop} {f l : Int32} {gm gr mk hf hr hc ce : Nat → Int32} {x y : Int32} (hi : vp_in x 16) (hm : vp_in y 8) (h : post (f, l, gm, gr, upd mk x.toNatClampNeg ((mk x.toNatClampNeg ||| 1) ||| 2), hf, hr, upd hc y.toNatClampNeg 1, ce)) : wpX_turnMarksOn post (f, l, gm, gr, mk, hf, hr, hc, ce) x y 2 := by
  unfold wpX_turnMarksOn
  dsimp only
  exact ⟨hi, hi, nm_e (br_t rfl ⟨hi, hi, nm_r (by rw [sg_up2, sg_us]) ⟨hm, nm_e h⟩⟩)⟩
/-- both sides reach alike: one answer, and states that keep what is kept -/
theorem sg_reach {s p : Nat} {l w : Int32} {gm gr mk hf hr hc ce tc cg : Nat → Int32} (hs : s < 2) (hp : p < 8) (J : sg_J gm mk hf hc tc cg) :
    ∃ (r : Int32) (mk' hc' tc' cg' : Nat → Int32), sg_J gm mk' hf hc' tc' cg' ∧ (r = -2 ∨ r = -3 ∨ ∃ f : Nat, f < 8 ∧ r = nI f) ∧
      (∀ post : Int32 → SX → Prop, post r (nI s, l, gm, gr, mk', hf, hr, hc', ce) → wpX_reachFrame post (nI s, l, gm, gr, mk, hf, hr, hc, ce) (nI p) w) ∧
      (∀ post : Int32 → SY → Prop, post r (nI s, l, gm, gr, tc', cg', hf, hr, hc', ce) → wpY_reach post (nI s, l, gm, gr, tc, cg, hf, hr, hc, ce) (nI p) w) := by
  have hi : vp_in (nI (s * 8 + p)) 16 := vp_in_nI (by omega) (by omega)
  unfold wpX_reachFrame wpY_reach
  dsimp only
  rcases J.1 (nI (s * 8 + p)).toNatClampNeg with g | ⟨m, hm, g⟩
  · refine ⟨-2, mk, hc, tc, cg, J, Or.inl rfl, fun post h => ?_, fun post h => ?_⟩
    · exact sg_ge hs hp ⟨hi, nm_r g (br_t rfl h)⟩
    · exact nm_r (sg_eY s hs p hp) ⟨hi, nm_r g (br_t (by decide) h)⟩
  · have hj : vp_in (nI m) 8 := vp_in_nI hm (by omega)
    have g0 : ¬ nI m < 0 := nI_pos (by omega)
    by_cases a : (gr (nI (s * 8 + p)).toNatClampNeg &&& w) = 0
    · refine ⟨-2, mk, hc, tc, cg, J, Or.inl rfl, fun post h => ?_, fun post h => ?_⟩
      · exact sg_ge hs hp ⟨hi, nm_r g (br_f (sg_nm1 m hm) ⟨hi, br_t a h⟩)⟩
      · exact nm_r (sg_eY s hs p hp) ⟨hi, nm_r g (br_f g0 ⟨hi, br_t a h⟩)⟩
    · rcases J.2.1 (nI m).toNatClampNeg with b | ⟨f, hf8, b⟩
      · have b0 : hf (nI m).toNatClampNeg < 0 := by
          rw [b]
          decide
        refine ⟨-3, mk, hc, tc, cg, J, Or.inr (Or.inl rfl), fun post h => ?_, fun post h => ?_⟩
        · exact sg_ge hs hp ⟨hi, nm_r g (br_f (sg_nm1 m hm) ⟨hi, br_f a ⟨hj, nm_e (br_t b h)⟩⟩)⟩
        · exact nm_r (sg_eY s hs p hp) ⟨hi, nm_r g (br_f g0 ⟨hi, br_f a ⟨hj, br_t b0 h⟩⟩)⟩
      · have b0 : ¬ hf (nI m).toNatClampNeg < 0 := by
          rw [b]
          exact nI_pos (by omega)
        have b1 : ¬ hf (nI m).toNatClampNeg = -1 := by
          rw [b]
          exact sg_nm1 f hf8
        have g1 : ¬ gm (nI (s * 8 + p)).toNatClampNeg = -1 := by
          rw [g]
          exact sg_nm1 m hm
        by_cases c : (hr (nI m).toNatClampNeg &&& w) = 0
        · refine ⟨-3, mk, hc, tc, cg, J, Or.inr (Or.inl rfl), fun post h => ?_, fun post h => ?_⟩
          · exact sg_ge hs hp ⟨hi, nm_r g (br_f (sg_nm1 m hm) ⟨hi, br_f a ⟨hj, nm_e (br_f b1 ⟨hj, br_t c h⟩)⟩⟩)⟩
          · exact nm_r (sg_eY s hs p hp) ⟨hi, nm_r g (br_f g0 ⟨hi, br_f a ⟨hj, br_f b0 ⟨hj, br_t c h⟩⟩⟩)⟩
        · by_cases d : w = 2
          · subst d
            refine ⟨hf (nI m).toNatClampNeg, _, _, _, _, sg_Jwrite J g1 b1, Or.inr (Or.inr ⟨f, hf8, b⟩), fun post h => ?_, fun post h => ?_⟩
            · exact sg_ge hs hp ⟨hi, nm_r g (br_f (sg_nm1 m hm) ⟨hi, br_f a ⟨hj, nm_e (br_f b1 ⟨hj, br_f c (sg_tm2 hi hj h)⟩)⟩⟩)⟩
            · exact nm_r (sg_eY s hs p hp) ⟨hi, nm_r g (br_f g0 ⟨hi, br_f a ⟨hj, br_f b0 ⟨hj, br_f c ⟨hi, nm_r (by rw [sg_b1]) (br_t rfl ⟨hi, nm_r (by rw [sg_b1]) ⟨hj, nm_r (by rw [sg_b1]) ⟨hj, h⟩⟩⟩)⟩⟩⟩⟩)⟩
          · refine ⟨hf (nI m).toNatClampNeg, _, _, _, _, sg_Jtouch J g1, Or.inr (Or.inr ⟨f, hf8, b⟩), fun post h => ?_, fun post h => ?_⟩
            · exact sg_ge hs hp ⟨hi, nm_r g (br_f (sg_nm1 m hm) ⟨hi, br_f a ⟨hj, nm_e (br_f b1 ⟨hj, br_f c (sg_tm1 hi d h)⟩)⟩⟩)⟩
            · exact nm_r (sg_eY s hs p hp) ⟨hi, nm_r g (br_f g0 ⟨hi, br_f a ⟨hj, br_f b0 ⟨hj, br_f c ⟨hi, nm_r (by rw [sg_b1]) (br_f d ⟨hj, h⟩)⟩⟩⟩⟩)⟩
end
section
theorem sg_8 : (8 : Int32) ≤ nI 8 := nI_le (Nat.le_refl 8) (by decide)
theorem sg_16 : (16 : Int32) ≤ nI 16 := nI_le (Nat.le_refl 16) (by decide)
theorem sg_x93 {post : SX → Prop} {f l : Int32} {gm gr mk hr hc ce : Nat → Int32} : ∀ d j : Nat, j + d = 8 → ∀ hf : Nat → Int32, post (f, l, gm, gr, mk, sg_fill d j hf, hr, hc, ce) → wX_init_93 post f l (d + 1) (nI j) gm gr mk hf hr hc ce := by
  intro d
  induction d with
  | zero =>
    intro j hj hf h
    obtain rfl : j = 8 := by omega
    rw [wX_init_93]
    exact br_t sg_8 h
  | succ d ih =>
    intro j hj hf h
    rw [wX_init_93]
    exact br_f (nI_ge (b := 8) (by omega) (by decide)) ⟨vp_in_nI (by omega) (by omega), nm_r (by rw [nI_clamp (by omega)]) (nm_r (nI_1 j) (ih (j + 1) (by omega) _ h))⟩
theorem sg_x72 {post : SX → Prop} {f l : Int32} {gr mk hf hr hc ce : Nat → Int32} : ∀ d j : Nat, j + d = 16 → ∀ gm : Nat → Int32, (∃ n : Nat, wX_init_93 post f l n 0 (sg_fill d j gm) gr mk hf hr hc ce) → wX_init_72 post f l (d + 1) (nI j) gm gr mk hf hr hc ce := by
  intro d
  induction d with
  | zero =>
    intro j hj gm h
    obtain rfl : j = 16 := by omega
    rw [wX_init_72]
    exact br_t sg_16 h
  | succ d ih =>
    intro j hj gm h
    rw [wX_init_72]
    exact br_f (nI_ge (b := 16) (by omega) (by decide)) ⟨vp_in_nI (by omega) (by omega), nm_r (by rw [nI_clamp (by omega)]) (nm_r (nI_1 j) (ih (j + 1) (by omega) _ h))⟩
theorem sg_y91 {post : SY → Prop} {f l : Int32} {gm gr tc cg hr hc ce : Nat → Int32} : ∀ d j : Nat, j + d = 8 → ∀ hf : Nat → Int32, post (f, l, gm, gr, tc, cg, sg_fill d j hf, hr, hc, ce) → wY_init_91 post f l (d + 1) (nI j) gm gr tc cg hf hr hc ce := by
  intro d
  induction d with
  | zero =>
    intro j hj hf h
    obtain rfl : j = 8 := by omega
    rw [wY_init_91]
    exact br_t sg_8 h
  | succ d ih =>
    intro j hj hf h
    rw [wY_init_91]
    exact br_f (nI_ge (b := 8) (by omega) (by decide)) ⟨vp_in_nI (by omega) (by omega), nm_r (by rw [nI_clamp (by omega)]) (nm_r (nI_1 j) (ih (j + 1) (by omega) _ h))⟩
theorem sg_y70 {post : SY → Prop} {f l : Int32} {gr tc cg hf hr hc ce : Nat → Int32} : ∀ d j : Nat, j + d = 16 → ∀ gm : Nat → Int32, (∃ n : Nat, wY_init_91 post f l n 0 (sg_fill d j gm) gr tc cg hf hr hc ce) → wY_init_70 post f l (d + 1) (nI j) gm gr tc cg hf hr hc ce := by
  intro d
  induction d with
  | zero =>
    intro j hj gm h
    obtain rfl : j = 16 := by omega
    rw [wY_init_70]
    exact br_t sg_16 h
  | succ d ih =>
    intro j hj gm h
    rw [wY_init_70]
    exact br_f (nI_ge (b := 16) (by omega) (by decide)) ⟨vp_in_nI (by omega) (by omega), nm_r (by rw [nI_clamp (by omega)]) (nm_r (nI_1 j) (ih (j + 1) (by omega) _ h))⟩
/-- the rounds of age that are left, both sides: one count, and marks that keep what is kept -/
theorem sg_age {a : Nat} {f l : Int32} {gm gr hf hr hc ce cg : Nat → Int32} (ha : a < 2) : ∀ d j : Nat, j + d = 8 → ∀ (c : Int32) (mk tc : Nat → Int32), sg_J gm mk hf hc tc cg →
    ∃ (r : Int32) (mk' tc' : Nat → Int32), sg_J gm mk' hf hc tc' cg ∧
      (∀ post : Int32 → SX → Prop, post r (f, l, gm, gr, mk', hf, hr, hc, ce) → wX_age_13 post (nI a) f l (d + 1) c (nI j) gm gr mk hf hr hc ce) ∧
      (∀ post : Int32 → SY → Prop, post r (f, l, gm, gr, tc', cg, hf, hr, hc, ce) → wY_age_14 post (nI a) f l (d + 1) c (nI j) gm gr tc cg hf hr hc ce) := by
  intro d
  induction d with
  | zero =>
    intro j hj c mk tc J
    obtain rfl : j = 8 := by omega
    refine ⟨c, mk, tc, J, fun post h => ?_, fun post h => ?_⟩
    · rw [wX_age_13]
      exact br_t sg_8 h
    · rw [wY_age_14]
      exact br_t sg_8 h
  | succ d ih =>
    intro j hj c mk tc J
    have h8 : ¬ (8 : Int32) ≤ nI j := nI_ge (b := 8) (by omega) (by decide)
    have hi : vp_in (nI (a * 8 + j)) 16 := vp_in_nI (by omega) (by omega)
    have ey := sg_eY a ha j (by omega)
    rcases sg_Jbit J (nI (a * 8 + j)).toNatClampNeg with ⟨x0, y0⟩ | ⟨x0, y0⟩
    · obtain ⟨r, mk', tc', J', hX, hY⟩ := ih (j + 1) (by omega) c mk tc J
      refine ⟨r, mk', tc', J', fun post h => ?_, fun post h => ?_⟩
      · rw [wX_age_13]
        exact br_f h8 (sg_ge ha (by omega) ⟨hi, br_t x0 (nm_r (nI_1 j) (hX post h))⟩)
      · rw [wY_age_14]
        unfold wY_age_37
        dsimp only
        rw [ey]
        exact br_f h8 ⟨hi, br_t y0 ⟨hi, nm_r (by rw [sg_b0]; exact sg_upE y0) (nm_r (nI_1 j) (hY post h))⟩⟩
    · obtain ⟨r, mk', tc', J', hX, hY⟩ := ih (j + 1) (by omega) (c + 1) _ _ (sg_Jage J (nI (a * 8 + j)).toNatClampNeg)
      refine ⟨r, mk', tc', J', fun post h => ?_, fun post h => ?_⟩
      · rw [wX_age_13]
        exact br_f h8 (sg_ge ha (by omega) ⟨hi, br_f x0 (nm_e ⟨hi, hi, nm_e (nm_r (nI_1 j) (hX post h))⟩)⟩)
      · rw [wY_age_14]
        unfold wY_age_37
        dsimp only
        rw [ey]
        exact br_f h8 ⟨hi, br_f y0 (nm_e ⟨hi, nm_r (by rw [sg_b0]) (nm_r (nI_1 j) (hY post h))⟩)⟩
end
section
theorem i_vc0 : wpX_init (fun u => wpY_init (fun v => i_Rel 0 u v)) := by
  unfold wpX_init wpY_init
  exact ⟨17, sg_x72 16 0 rfl _ ⟨9, sg_x93 8 0 rfl _ ⟨17, sg_y70 16 0 rfl _ ⟨9, sg_y91 8 0 rfl _ (sg_rel (s := 0) (by decide) sg_J0)⟩⟩⟩⟩
theorem i_vc_setGuest {k : Nat} {u : SX} {v : SY} (I : i_Rel k u v) (hk : k + 5 ≤ 2560) (v1 : Int32) (v2 : Int32) (v3 : Int32) (v4 : Int32) : wpX_setGuest (fun r u' => wpY_setGuest (fun r' v' => r' = r ∧ i_Rel (k + 5) u' v') v v1 v2 v3 v4) u v1 v2 v3 v4 := by
  have K := i_up I
  obtain ⟨s, l, gm, gr, mk, hf, hr, hc, ce, tc, cg, rfl, rfl, hs, J⟩ := I
  unfold wpX_setGuest wpY_setGuest
  dsimp only
  rcases sg_ix v1 2 (by decide) with ⟨a, ha, rfl⟩ | o1
  · rcases sg_ix v2 8 (by decide) with ⟨b, hb, rfl⟩ | o2
    · rcases sg_tri v3 with hp | ⟨hn, o3⟩
      · have hi : vp_in (nI (a * 8 + b)) 16 := vp_in_nI (by omega) (by omega)
        obtain ⟨z, y⟩ := sg_pgY hp
        refine sg_spT ha (br_f (by decide) (sg_paT hb (br_f (by decide) (sg_pnT hp (br_f (by decide) (sg_ge ha hb ⟨hi, nm_e ⟨hi, nm_e ⟨hi, nm_e ?_⟩⟩⟩))))))
        exact sg_oI 1 rfl (by omega) (by decide) (br_t rfl (sg_oI 7 rfl (by omega) (by decide) (br_t rfl (br_f z (br_t y (nm_r (sg_eY a ha b hb) ⟨hi, nm_e ⟨hi, nm_e ⟨hi, nm_r (by rw [sg_b0]) ⟨hi, nm_r (by rw [sg_b0]) ⟨rfl, sg_rel hs (sg_Jguest J _ hp)⟩⟩⟩⟩⟩))))))
      · refine sg_spT ha (br_f (by decide) (sg_paT hb (br_f (by decide) (sg_pnF hn o3 (br_t rfl ?_)))))
        refine sg_oI 1 rfl (by omega) (by decide) (br_t rfl (sg_oI 7 rfl (by omega) (by decide) (br_t rfl ?_)))
        rcases sg_pgN hn o3 with z | ⟨z, y⟩
        · exact br_t z ⟨rfl, K⟩
        · exact br_f z (br_f y ⟨rfl, K⟩)
    · refine sg_spT ha (br_f (by decide) (sg_paF o2 (br_t rfl ?_)))
      exact sg_oI 1 rfl (by omega) (by decide) (br_t rfl (sg_oO 7 rfl o2 (by decide) (br_f (by decide) ⟨rfl, K⟩)))
  · refine sg_spF o1 (br_t rfl ?_)
    exact sg_oO 1 rfl o1 (by decide) (br_f (by decide) ⟨rfl, K⟩)
theorem i_vc_setHost {k : Nat} {u : SX} {v : SY} (I : i_Rel k u v) (hk : k + 5 ≤ 2560) (v1 : Int32) (v2 : Int32) (v3 : Int32) : wpX_setHost (fun r u' => wpY_setHost (fun r' v' => r' = r ∧ i_Rel (k + 5) u' v') v v1 v2 v3) u v1 v2 v3 := by
  have K := i_up I
  obtain ⟨s, l, gm, gr, mk, hf, hr, hc, ce, tc, cg, rfl, rfl, hs, J⟩ := I
  unfold wpX_setHost wpY_setHost
  dsimp only
  rcases sg_ix v1 8 (by decide) with ⟨a, ha, rfl⟩ | o1
  · rcases sg_tri v2 with hp | ⟨hn, o3⟩
    · have hi : vp_in (nI a) 8 := vp_in_nI ha (by omega)
      obtain ⟨z, y⟩ := sg_pgY hp
      refine sg_paT ha (br_f (by decide) (sg_pnT hp (br_f (by decide) ⟨hi, nm_e ⟨hi, nm_e ⟨hi, nm_e ?_⟩⟩⟩)))
      exact sg_oI 7 rfl (by omega) (by decide) (br_t rfl (br_f z (br_t y ⟨hi, nm_e ⟨hi, nm_e ⟨hi, nm_r (by rw [sg_b0]) ⟨rfl, sg_rel hs (sg_Jhost J _ hp)⟩⟩⟩⟩)))
    · refine sg_paT ha (br_f (by decide) (sg_pnF hn o3 (br_t rfl ?_)))
      refine sg_oI 7 rfl (by omega) (by decide) (br_t rfl ?_)
      rcases sg_pgN hn o3 with z | ⟨z, y⟩
      · exact br_t z ⟨rfl, K⟩
      · exact br_f z (br_f y ⟨rfl, K⟩)
  · refine sg_paF o1 (br_t rfl ?_)
    exact sg_oO 7 rfl o1 (by decide) (br_f (by decide) ⟨rfl, K⟩)
theorem i_vc_change {k : Nat} {u : SX} {v : SY} (I : i_Rel k u v) (hk : k + 5 ≤ 2560) (v1 : Int32) : wpX_change (fun u' => wpY_change (fun v' => i_Rel (k + 5) u' v') v v1) u v1 := by
  obtain ⟨s, l, gm, gr, mk, hf, hr, hc, ce, tc, cg, rfl, rfl, hs, J⟩ := I
  obtain ⟨j, hj, e⟩ := sg_and1 v1
  unfold wpX_change wpY_change
  dsimp only
  exact nm_r e (nm_r e (sg_rel hj J))
end
section
theorem i_vc_load {k : Nat} {u : SX} {v : SY} (I : i_Rel k u v) (hk : k + 5 ≤ 2560) (v1 : Int32) (v2 : Int32) : wpX_load (fun r u' => wpY_load (fun r' v' => r' = r ∧ i_Rel (k + 5) u' v') v v1 v2) u v1 v2 := by
  have K := i_up I
  obtain ⟨s, l, gm, gr, mk, hf, hr, hc, ce, tc, cg, rfl, rfl, hs, J⟩ := I
  unfold wpX_load wpY_load
  dsimp only
  rcases sg_ix v1 8 (by decide) with ⟨a, ha, rfl⟩ | o1
  · rcases sg_ix v2 4 (by decide) with ⟨b, hb, rfl⟩ | o2
    · obtain ⟨r, mk', hc', tc', cg', J', hr3, hX, hY⟩ := sg_reach (w := 1) (l := l) (gr := gr) (hr := hr) (ce := ce) hs ha J
      refine sg_paT ha (br_f (by decide) (sg_ceT hb (br_f (by decide) (hX _ ?_))))
      dsimp only
      rcases hr3 with rfl | rfl | ⟨f, hf8, rfl⟩
      · refine br_f (by decide) (sg_oI 7 rfl (by omega) (by decide) (br_t rfl (sg_oI 3 rfl (by omega) (by decide) (br_t rfl (hY _ ?_)))))
        dsimp only
        exact br_f (by decide) ⟨rfl, sg_rel hs J'⟩
      · refine br_f (by decide) (sg_oI 7 rfl (by omega) (by decide) (br_t rfl (sg_oI 3 rfl (by omega) (by decide) (br_t rfl (hY _ ?_)))))
        dsimp only
        exact br_f (by decide) ⟨rfl, sg_rel hs J'⟩
      · have hi : vp_in (nI (f * 4 + b)) 32 := vp_in_nI (by omega) (by omega)
        have f0 : (0 : Int32) ≤ nI f := nI_pos' (by omega)
        refine br_t f0 (sg_ci hf8 hb ⟨hi, nm_e ?_⟩)
        refine sg_oI 7 rfl (by omega) (by decide) (br_t rfl (sg_oI 3 rfl (by omega) (by decide) (br_t rfl (hY _ ?_))))
        dsimp only
        rw [sg_cY f hf8 b hb]
        exact br_t f0 ⟨hi, nm_e ⟨rfl, sg_rel hs J'⟩⟩
    · refine sg_paT ha (br_f (by decide) (sg_ceF o2 (br_t rfl ?_)))
      exact sg_oI 7 rfl (by omega) (by decide) (br_t rfl (sg_oO 3 rfl o2 (by decide) (br_f (by decide) ⟨rfl, K⟩)))
  · refine sg_paF o1 (br_t rfl ?_)
    exact sg_oO 7 rfl o1 (by decide) (br_f (by decide) ⟨rfl, K⟩)
theorem i_vc_store {k : Nat} {u : SX} {v : SY} (I : i_Rel k u v) (hk : k + 5 ≤ 2560) (v1 : Int32) (v2 : Int32) (v3 : Int32) : wpX_store (fun r u' => wpY_store (fun r' v' => r' = r ∧ i_Rel (k + 5) u' v') v v1 v2 v3) u v1 v2 v3 := by
  have K := i_up I
  obtain ⟨s, l, gm, gr, mk, hf, hr, hc, ce, tc, cg, rfl, rfl, hs, J⟩ := I
  unfold wpX_store wpY_store
  dsimp only
  rcases sg_ix v1 8 (by decide) with ⟨a, ha, rfl⟩ | o1
  · rcases sg_ix v2 4 (by decide) with ⟨b, hb, rfl⟩ | o2
    · obtain ⟨r, mk', hc', tc', cg', J', hr3, hX, hY⟩ := sg_reach (w := 2) (l := l) (gr := gr) (hr := hr) (ce := ce) hs ha J
      refine sg_paT ha (br_f (by decide) (sg_ceT hb (br_f (by decide) (hX _ ?_))))
      dsimp only
      rcases hr3 with rfl | rfl | ⟨f, hf8, rfl⟩
      · refine br_f (by decide) (sg_oI 7 rfl (by omega) (by decide) (br_t rfl (sg_oI 3 rfl (by omega) (by decide) (br_t rfl (hY _ ?_)))))
        dsimp only
        exact br_f (by decide) ⟨rfl, sg_rel hs J'⟩
      · refine br_f (by decide) (sg_oI 7 rfl (by omega) (by decide) (br_t rfl (sg_oI 3 rfl (by omega) (by decide) (br_t rfl (hY _ ?_)))))
        dsimp only
        exact br_f (by decide) ⟨rfl, sg_rel hs J'⟩
      · have hi : vp_in (nI (f * 4 + b)) 32 := vp_in_nI (by omega) (by omega)
        have f0 : (0 : Int32) ≤ nI f := nI_pos' (by omega)
        refine br_t f0 (sg_ci hf8 hb ⟨hi, nm_e ?_⟩)
        refine sg_oI 7 rfl (by omega) (by decide) (br_t rfl (sg_oI 3 rfl (by omega) (by decide) (br_t rfl (hY _ ?_))))
        dsimp only
        rw [sg_cY f hf8 b hb]
        exact br_t f0 ⟨hi, nm_e ⟨rfl, sg_rel hs J'⟩⟩
    · refine sg_paT ha (br_f (by decide) (sg_ceF o2 (br_t rfl ?_)))
      exact sg_oI 7 rfl (by omega) (by decide) (br_t rfl (sg_oO 3 rfl o2 (by decide) (br_f (by decide) ⟨rfl, K⟩)))
  · refine sg_paF o1 (br_t rfl ?_)
    exact sg_oO 7 rfl o1 (by decide) (br_f (by decide) ⟨rfl, K⟩)
theorem i_vc_fetch {k : Nat} {u : SX} {v : SY} (I : i_Rel k u v) (hk : k + 5 ≤ 2560) (v1 : Int32) : wpX_fetch (fun r u' => wpY_fetch (fun r' v' => r' = r ∧ i_Rel (k + 5) u' v') v v1) u v1 := by
  have K := i_up I
  obtain ⟨s, l, gm, gr, mk, hf, hr, hc, ce, tc, cg, rfl, rfl, hs, J⟩ := I
  unfold wpX_fetch wpY_fetch
  dsimp only
  rcases sg_ix v1 8 (by decide) with ⟨a, ha, rfl⟩ | o1
  · obtain ⟨r, mk', hc', tc', cg', J', hr3, hX, hY⟩ := sg_reach (w := 4) (l := l) (gr := gr) (hr := hr) (ce := ce) hs ha J
    refine sg_paT ha (br_f (by decide) (hX _ ?_))
    dsimp only
    refine sg_oI 7 rfl (by omega) (by decide) (br_t rfl (hY _ ?_))
    dsimp only
    exact ⟨rfl, sg_rel hs J'⟩
  · refine sg_paF o1 (br_t rfl ?_)
    exact sg_oO 7 rfl o1 (by decide) (br_f (by decide) ⟨rfl, K⟩)
end
section
theorem i_vc_last {k : Nat} {u : SX} {v : SY} (I : i_Rel k u v) (hk : k + 5 ≤ 2560) : wpX_last (fun r => wpY_last (fun r' => r' = r ∧ i_Rel (k + 5) u v) v) u := by
  have K := i_up I
  obtain ⟨s, l, gm, gr, mk, hf, hr, hc, ce, tc, cg, rfl, rfl, hs, J⟩ := I
  unfold wpX_last wpY_last
  dsimp only
  exact ⟨rfl, K⟩
theorem i_vc_marks {k : Nat} {u : SX} {v : SY} (I : i_Rel k u v) (hk : k + 5 ≤ 2560) (v1 : Int32) (v2 : Int32) : wpX_marks (fun r => wpY_marks (fun r' => r' = r ∧ i_Rel (k + 5) u v) v v1 v2) u v1 v2 := by
  have K := i_up I
  obtain ⟨s, l, gm, gr, mk, hf, hr, hc, ce, tc, cg, rfl, rfl, hs, J⟩ := I
  unfold wpX_marks wpY_marks wY_marks_51
  dsimp only
  rcases sg_ix v1 2 (by decide) with ⟨a, ha, rfl⟩ | o1
  · rcases sg_ix v2 8 (by decide) with ⟨b, hb, rfl⟩ | o2
    · have hi : vp_in (nI (a * 8 + b)) 16 := vp_in_nI (by omega) (by omega)
      refine sg_spT ha (br_f (by decide) (sg_paT hb (br_f (by decide) (sg_ge ha hb ⟨hi, ?_⟩))))
      refine sg_oI 1 rfl (by omega) (by decide) (br_t rfl (sg_oI 7 rfl (by omega) (by decide) (br_t rfl (nm_r (sg_eY a ha b hb) ⟨hi, ?_⟩))))
      rcases J.1 (nI (a * 8 + b)).toNatClampNeg with g | ⟨m, hm, g⟩
      · have g0 : ¬ 0 ≤ gm (nI (a * 8 + b)).toNatClampNeg := by
          rw [g]
          decide
        exact br_f g0 ⟨(J.2.2.2.1 _ g).symm, K⟩
      · have g0 : 0 ≤ gm (nI (a * 8 + b)).toNatClampNeg := by
          rw [g]
          exact nI_pos' (by omega)
        rcases J.2.2.1 (nI (a * 8 + b)).toNatClampNeg with ⟨t, c, m⟩ | ⟨t, c, m⟩ | ⟨t, c, m⟩ | ⟨t, c, m⟩
        · exact br_t g0 ⟨hi, br_t t ⟨hi, br_t c ⟨(by decide : (0 : Int32) + 0 = 0).trans m.symm, K⟩⟩⟩
        · exact br_t g0 ⟨hi, br_f (by rw [t]; decide) ⟨hi, br_t c ⟨(by decide : (1 : Int32) + 0 = 1).trans m.symm, K⟩⟩⟩
        · exact br_t g0 ⟨hi, br_t t ⟨hi, br_f (by rw [c]; decide) ⟨(by decide : (0 : Int32) + 2 = 2).trans m.symm, K⟩⟩⟩
        · exact br_t g0 ⟨hi, br_f (by rw [t]; decide) ⟨hi, br_f (by rw [c]; decide) ⟨(by decide : (1 : Int32) + 2 = 3).trans m.symm, K⟩⟩⟩
    · refine sg_spT ha (br_f (by decide) (sg_paF o2 (br_t rfl ?_)))
      exact sg_oI 1 rfl (by omega) (by decide) (br_t rfl (sg_oO 7 rfl o2 (by decide) (br_f (by decide) ⟨rfl, K⟩)))
  · refine sg_spF o1 (br_t rfl ?_)
    exact sg_oO 1 rfl o1 (by decide) (br_f (by decide) ⟨rfl, K⟩)
theorem i_vc_hostMark {k : Nat} {u : SX} {v : SY} (I : i_Rel k u v) (hk : k + 5 ≤ 2560) (v1 : Int32) : wpX_hostMark (fun r => wpY_hostMark (fun r' => r' = r ∧ i_Rel (k + 5) u v) v v1) u v1 := by
  have K := i_up I
  obtain ⟨s, l, gm, gr, mk, hf, hr, hc, ce, tc, cg, rfl, rfl, hs, J⟩ := I
  unfold wpX_hostMark wpY_hostMark
  dsimp only
  rcases sg_ix v1 8 (by decide) with ⟨a, ha, rfl⟩ | o1
  · have hi : vp_in (nI a) 8 := vp_in_nI ha (by omega)
    refine sg_paT ha (br_f (by decide) ⟨hi, ?_⟩)
    refine sg_oI 7 rfl (by omega) (by decide) (br_t rfl ⟨hi, ?_⟩)
    rcases J.2.1 (nI a).toNatClampNeg with g | ⟨m, hm, g⟩
    · have g0 : hf (nI a).toNatClampNeg < 0 := by
        rw [g]
        decide
      exact br_t g0 ⟨(J.2.2.2.2.2 _ g).symm, K⟩
    · have g0 : ¬ hf (nI a).toNatClampNeg < 0 := by
        rw [g]
        exact nI_pos (by omega)
      rcases J.2.2.2.2.1 (nI a).toNatClampNeg with q | q
      · exact br_f g0 ⟨hi, br_t q ⟨q.symm, K⟩⟩
      · exact br_f g0 ⟨hi, br_f (by rw [q]; decide) ⟨q.symm, K⟩⟩
  · refine sg_paF o1 (br_t rfl ?_)
    exact sg_oO 7 rfl o1 (by decide) (br_f (by decide) ⟨rfl, K⟩)
theorem i_vc_age {k : Nat} {u : SX} {v : SY} (I : i_Rel k u v) (hk : k + 5 ≤ 2560) (v1 : Int32) : wpX_age (fun r u' => wpY_age (fun r' v' => r' = r ∧ i_Rel (k + 5) u' v') v v1) u v1 := by
  have K := i_up I
  obtain ⟨s, l, gm, gr, mk, hf, hr, hc, ce, tc, cg, rfl, rfl, hs, J⟩ := I
  unfold wpX_age wpY_age
  dsimp only
  rcases sg_ix v1 2 (by decide) with ⟨a, ha, rfl⟩ | o1
  · obtain ⟨r, mk', tc', J', hX, hY⟩ := sg_age (f := nI s) (l := l) (gr := gr) (hr := hr) (ce := ce) ha 8 0 rfl 0 mk tc J
    refine sg_spT ha (br_f (by decide) ⟨9, hX _ ?_⟩)
    exact sg_oI 1 rfl (by omega) (by decide) (br_t rfl ⟨9, hY _ ⟨rfl, sg_rel hs J'⟩⟩)
  · refine sg_spF o1 (br_t rfl ?_)
    exact sg_oO 1 rfl o1 (by decide) (br_f (by decide) ⟨rfl, K⟩)
theorem i_vc_frameCell {k : Nat} {u : SX} {v : SY} (I : i_Rel k u v) (hk : k + 5 ≤ 2560) (v1 : Int32) (v2 : Int32) : wpX_frameCell (fun r => wpY_frameCell (fun r' => r' = r ∧ i_Rel (k + 5) u v) v v1 v2) u v1 v2 := by
  have K := i_up I
  obtain ⟨s, l, gm, gr, mk, hf, hr, hc, ce, tc, cg, rfl, rfl, hs, J⟩ := I
  unfold wpX_frameCell wpY_frameCell
  dsimp only
  rcases sg_ix v1 8 (by decide) with ⟨a, ha, rfl⟩ | o1
  · rcases sg_ix v2 4 (by decide) with ⟨b, hb, rfl⟩ | o2
    · have hi : vp_in (nI (a * 4 + b)) 32 := vp_in_nI (by omega) (by omega)
      refine sg_paT ha (br_f (by decide) (sg_ceT hb (br_f (by decide) (sg_ci ha hb ⟨hi, ?_⟩))))
      rw [sg_cY a ha b hb]
      exact sg_oI 7 rfl (by omega) (by decide) (br_t rfl (sg_oI 3 rfl (by omega) (by decide) (br_t rfl ⟨hi, rfl, K⟩)))
    · refine sg_paT ha (br_f (by decide) (sg_ceF o2 (br_t rfl ?_)))
      exact sg_oI 7 rfl (by omega) (by decide) (br_t rfl (sg_oO 3 rfl o2 (by decide) (br_f (by decide) ⟨rfl, K⟩)))
  · refine sg_paF o1 (br_t rfl ?_)
    exact sg_oO 7 rfl o1 (by decide) (br_f (by decide) ⟨rfl, K⟩)
end
