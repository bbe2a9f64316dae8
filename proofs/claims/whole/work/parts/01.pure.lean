theorem sg_us {f : Nat → Int32} {k : Nat} {x : Int32} : upd f k x k = x := if_pos rfl
theorem sg_un {f : Nat → Int32} {k j : Nat} {x : Int32} (h : j ≠ k) : upd f k x j = f j := if_neg h
theorem sg_all {P : Nat → Int32 → Prop} {f : Nat → Int32} {k : Nat} {x : Int32} (h : ∀ e, P e (f e)) (hx : P k x) : ∀ e, P e (upd f k x e) := by
  intro e
  by_cases c : e = k
  · subst c
    rw [sg_us]
    exact hx
  · rw [sg_un c]
    exact h e
theorem sg_b0 : vp_nar .boolean 0 = 0 := by decide
theorem sg_b1 : vp_nar .boolean 1 = 1 := by decide
/-- a number of a page, a middle page or a frame, or nothing -/
def sg_pg (x : Int32) : Prop := x = -1 ∨ ∃ j : Nat, j < 8 ∧ x = nI j
/-- the marks of an entry: the component keeps one number, the reference two -/
def sg_mk (t c m : Int32) : Prop := (t = 0 ∧ c = 0 ∧ m = 0) ∨ (t = 1 ∧ c = 0 ∧ m = 1) ∨ (t = 0 ∧ c = 1 ∧ m = 2) ∨ (t = 1 ∧ c = 1 ∧ m = 3)
theorem sg_mk0 : sg_mk 0 0 0 := Or.inl ⟨rfl, rfl, rfl⟩
theorem sg_mkT {t c m : Int32} (h : sg_mk t c m) : sg_mk 1 c (m ||| 1) := by
  rcases h with ⟨rfl, rfl, rfl⟩ | ⟨rfl, rfl, rfl⟩ | ⟨rfl, rfl, rfl⟩ | ⟨rfl, rfl, rfl⟩ <;> (unfold sg_mk; decide)
theorem sg_mkW {t c m : Int32} (h : sg_mk t c m) : sg_mk 1 1 ((m ||| 1) ||| 2) := by
  rcases h with ⟨rfl, rfl, rfl⟩ | ⟨rfl, rfl, rfl⟩ | ⟨rfl, rfl, rfl⟩ | ⟨rfl, rfl, rfl⟩ <;> (unfold sg_mk; decide)
theorem sg_mkA {t c m : Int32} (h : sg_mk t c m) : sg_mk 0 c (m &&& 2) := by
  rcases h with ⟨rfl, rfl, rfl⟩ | ⟨rfl, rfl, rfl⟩ | ⟨rfl, rfl, rfl⟩ | ⟨rfl, rfl, rfl⟩ <;> (unfold sg_mk; decide)
theorem sg_mkB {t c m : Int32} (h : sg_mk t c m) : ((m &&& 1) = 0 ∧ t = 0) ∨ (¬ (m &&& 1) = 0 ∧ ¬ t = 0) := by
  rcases h with ⟨rfl, rfl, rfl⟩ | ⟨rfl, rfl, rfl⟩ | ⟨rfl, rfl, rfl⟩ | ⟨rfl, rfl, rfl⟩ <;> decide
/-- what the two states keep, beside being the same: gm hf the tables, mk the component's marks, tc cg the reference's, hc the host's -/
def sg_J (gm mk hf hc tc cg : Nat → Int32) : Prop :=
  (∀ e, sg_pg (gm e)) ∧ (∀ e, sg_pg (hf e)) ∧ (∀ e, sg_mk (tc e) (cg e) (mk e)) ∧ (∀ e, gm e = -1 → mk e = 0) ∧ (∀ e, hc e = 0 ∨ hc e = 1) ∧ (∀ e, hf e = -1 → hc e = 0)
theorem sg_mkU {mk tc cg : Nat → Int32} {k : Nat} {t c m : Int32} (h : ∀ e, sg_mk (tc e) (cg e) (mk e)) (hx : sg_mk t c m) : ∀ e, sg_mk (upd tc k t e) (upd cg k c e) (upd mk k m e) := by
  intro e
  by_cases z : e = k
  · subst z
    rw [sg_us, sg_us, sg_us]
    exact hx
  · rw [sg_un z, sg_un z, sg_un z]
    exact h e
theorem sg_upE {f : Nat → Int32} {k : Nat} {x : Int32} (h : f k = x) : upd f k x = f := by
  funext e
  by_cases z : e = k
  · subst z
    rw [sg_us, h]
  · rw [sg_un z]
theorem sg_up2 {f : Nat → Int32} {k : Nat} {x y : Int32} : upd (upd f k x) k y = upd f k y := by
  funext e
  by_cases z : e = k
  · subst z
    rw [sg_us, sg_us]
  · rw [sg_un z, sg_un z, sg_un z]
theorem sg_Jguest {gm mk hf hc tc cg : Nat → Int32} (h : sg_J gm mk hf hc tc cg) (e : Nat) {x : Int32} (hx : sg_pg x) : sg_J (upd gm e x) (upd mk e 0) hf hc (upd tc e 0) (upd cg e 0) := by
  obtain ⟨h1, h2, h3, h4, h5, h6⟩ := h
  refine ⟨sg_all (P := fun _ y => sg_pg y) h1 hx, h2, sg_mkU h3 sg_mk0, ?_, h5, h6⟩
  intro j
  by_cases z : j = e
  · subst z
    intro _
    rw [sg_us]
  · rw [sg_un z, sg_un z]
    exact h4 j
theorem sg_Jhost {gm mk hf hc tc cg : Nat → Int32} (h : sg_J gm mk hf hc tc cg) (e : Nat) {x : Int32} (hx : sg_pg x) : sg_J gm mk (upd hf e x) (upd hc e 0) tc cg := by
  obtain ⟨h1, h2, h3, h4, h5, h6⟩ := h
  refine ⟨h1, sg_all (P := fun _ y => sg_pg y) h2 hx, h3, h4, sg_all (P := fun _ y => y = 0 ∨ y = 1) h5 (Or.inl rfl), ?_⟩
  intro j
  by_cases z : j = e
  · subst z
    intro _
    rw [sg_us]
  · rw [sg_un z, sg_un z]
    exact h6 j
theorem sg_Jtouch {gm mk hf hc tc cg : Nat → Int32} (h : sg_J gm mk hf hc tc cg) {e : Nat} (he : ¬ gm e = -1) : sg_J gm (upd mk e (mk e ||| 1)) hf hc (upd tc e 1) cg := by
  obtain ⟨h1, h2, h3, h4, h5, h6⟩ := h
  refine ⟨h1, h2, ?_, ?_, h5, h6⟩
  · have q := sg_mkU (k := e) h3 (sg_mkT (h3 e))
    rw [sg_upE (f := cg) rfl] at q
    exact q
  · intro j
    by_cases z : j = e
    · subst z
      intro b
      exact absurd b he
    · rw [sg_un z]
      exact h4 j
theorem sg_Jwrite {gm mk hf hc tc cg : Nat → Int32} (h : sg_J gm mk hf hc tc cg) {e m : Nat} (he : ¬ gm e = -1) (hm : ¬ hf m = -1) : sg_J gm (upd mk e ((mk e ||| 1) ||| 2)) hf (upd hc m 1) (upd tc e 1) (upd cg e 1) := by
  obtain ⟨h1, h2, h3, h4, h5, h6⟩ := h
  refine ⟨h1, h2, sg_mkU (k := e) h3 (sg_mkW (h3 e)), ?_, sg_all (P := fun _ y => y = 0 ∨ y = 1) h5 (Or.inr rfl), ?_⟩
  · intro j
    by_cases z : j = e
    · subst z
      intro b
      exact absurd b he
    · rw [sg_un z]
      exact h4 j
  · intro j
    by_cases z : j = m
    · subst z
      intro b
      exact absurd b hm
    · rw [sg_un z]
      exact h6 j
theorem sg_Jage {gm mk hf hc tc cg : Nat → Int32} (h : sg_J gm mk hf hc tc cg) (e : Nat) : sg_J gm (upd mk e (mk e &&& 2)) hf hc (upd tc e 0) cg := by
  obtain ⟨h1, h2, h3, h4, h5, h6⟩ := h
  refine ⟨h1, h2, ?_, ?_, h5, h6⟩
  · have q := sg_mkU (k := e) h3 (sg_mkA (h3 e))
    rw [sg_upE (f := cg) rfl] at q
    exact q
  · intro j
    by_cases z : j = e
    · subst z
      intro b
      rw [sg_us, h4 j b]
      decide
    · rw [sg_un z]
      exact h4 j
theorem sg_Jbit {gm mk hf hc tc cg : Nat → Int32} (h : sg_J gm mk hf hc tc cg) (e : Nat) : ((mk e &&& 1) = 0 ∧ tc e = 0) ∨ (¬ (mk e &&& 1) = 0 ∧ ¬ tc e = 0) := sg_mkB (h.2.2.1 e)
/-- a number within, or outside -/
theorem sg_ix (x : Int32) (n : Nat) (hn : n < 2 ^ 31) : (∃ j : Nat, j < n ∧ x = nI j) ∨ x < 0 ∨ (¬ x < 0 ∧ nI n ≤ x) := by
  by_cases h : x < 0
  · exact Or.inr (Or.inl h)
  · obtain ⟨j, hj, rfl⟩ := nI_of h
    by_cases h2 : j < n
    · exact Or.inl ⟨j, h2, rfl⟩
    · exact Or.inr (Or.inr ⟨h, nI_le (by omega) hj⟩)
theorem sg_eX : ∀ s : Nat, s < 2 → ∀ p : Nat, p < 8 → nI s * 8 + nI p = nI (s * 8 + p) := by decide +kernel
theorem sg_eY : ∀ s : Nat, s < 2 → ∀ p : Nat, p < 8 → 8 * nI s + nI p = nI (s * 8 + p) := by decide +kernel
theorem sg_cX : ∀ s : Nat, s < 8 → ∀ p : Nat, p < 4 → nI s * 4 + nI p = nI (s * 4 + p) := by decide +kernel
theorem sg_cY : ∀ s : Nat, s < 8 → ∀ p : Nat, p < 4 → 4 * nI s + nI p = nI (s * 4 + p) := by decide +kernel
/-- the two constructors' loops: -1 in the cells from j on, d of them -/
def sg_fill : Nat → Nat → (Nat → Int32) → Nat → Int32
  | 0, _, a => a
  | d + 1, j, a => sg_fill d (j + 1) (upd a j (-1))
theorem sg_fillP : ∀ (d j : Nat) (a : Nat → Int32), (∀ e, sg_pg (a e)) → ∀ e, sg_pg (sg_fill d j a e) := by
  intro d
  induction d with
  | zero => intro j a h; exact h
  | succ d ih =>
    intro j a h
    exact ih (j + 1) _ (sg_all (P := fun _ y => sg_pg y) h (Or.inl rfl))
theorem sg_J0 : sg_J (sg_fill 16 0 (fun _ => 0)) (fun _ => 0) (sg_fill 8 0 (fun _ => 0)) (fun _ => 0) (fun _ => 0) (fun _ => 0) :=
  ⟨sg_fillP 16 0 _ (fun _ => Or.inr ⟨0, by decide, rfl⟩), sg_fillP 8 0 _ (fun _ => Or.inr ⟨0, by decide, rfl⟩), fun _ => sg_mk0, fun _ _ => rfl, fun _ => Or.inl rfl, fun _ _ => rfl⟩
