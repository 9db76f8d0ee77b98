/-! note; isEntry, isPlace; wears, makes, slacks, totals, undo of the reference -/
theorem Enc.o0 {f : Nat → Int32} {s : Sh} (x : Enc f 0 s) : f 0 = nI s.1.length := x.1
/-- note: the sheet as it is goes behind the others; the eldest of eight makes room -/
theorem m114 {X : smX} {h : smH} {M : Nat} {st : St} (r : RepM h M st) : ∃ h', sm_C PP X 114 [.ref M] h = some (none, h') ∧ RepM h' M (st.1, st.2.1, (st.2.1 :: st.2.2.1).take 8, st.2.2.2) ∧ (∀ f, IA h (M + 1) 219 f → IA h' (M + 1) 219 f) ∧ Fr h h' M (M + 16) := by
  obtain ⟨⟨q, a⟩, b, ⟨f, c1, c2⟩, ⟨g, d1, d2, d3⟩, e, i⟩ := r
  -- from deeds below eight on
  have fin : ∀ (h1 : smH) (g1 : Nat → Int32) (p : List Sh), p.length ≤ 7 → MObj h1 M p.length st.1.length q → IA h1 (M + 1) 219 f → IA h1 (M + 2) 1752 g1 → (∀ i, i < p.length → ∃ s, p[p.length - 1 - i]? = some s ∧ Enc g1 (219 * i) s) → ∃ h', sm_E PP X 114 37 [(0, .ref M)] [] h1 = some (none, h') ∧ MObj h' M (p.length + 1) st.1.length q ∧ MPast h' M (st.2.1 :: p) ∧ IA h' (M + 1) 219 f ∧ h'.2 = h1.2 ∧ ∀ a, a ≠ M → a ≠ M + 2 → h'.1 a = h1.1 a := by
    intro h1 g1 p hp a1 cc1 dd1 dd3
    obtain ⟨h2, e2, q2, k2⟩ := m113 (X := X) (i := 0) (j := 219 * p.length) (n := 219) (show 0 + 219 ≤ 219 by omega) (show 219 * p.length + 219 ≤ 1752 by omega) (by omega) (by omega) (show M + 1 ≠ M + 2 by omega) cc1 dd1
    have a2 := a1.fr k2 (by omega)
    have k3 : Fr h2 (sm_w h2 M (.inr (8, mo M (p.length + 1) st.1.length q))) M (M + 1) := Fr.w
    refine ⟨sm_w h2 M (.inr (8, mo M (p.length + 1) st.1.length q)), ?_, a2.set, ⟨_, q2.fr k3 (by omega), by show p.length + 1 ≤ 8; omega, fun j hj => ?_⟩, (cc1.fr k2 (by omega)).fr k3 (by omega), k2.1, fun x hx1 hx2 => (w_ne hx1).trans (k2.2 x (by omega))⟩
    · rw [b114_37]
      simp only [fO a1, sm_gI_s, sm_gR_s, sm_gJ_s, sm_cR_s, sm_al_s, sm_sw_s, sm_tl1, sm_tl0, sm_ap0, sm_ap1, List.getElem?_cons_zero, List.getElem?_cons_succ, nk10, nk11, if_true, eq_self, pk_mul, e2, b114_60, fO a2, nI_add]
      rw [pO a2 (by show 2 < 18; omega)]
      rfl
    · have hj2 : j < p.length + 1 := hj
      by_cases e0 : j = p.length
      · refine ⟨st.2.1, ?_, c2.cp (fun k hk => ?_)⟩
        · rw [e0, show (st.2.1 :: p).length - 1 - p.length = 0 by show p.length + 1 - 1 - p.length = 0; omega]; rfl
        · rw [e0, mv_in hk]
      · obtain ⟨s, s1, s2⟩ := dd3 j (by omega)
        refine ⟨s, ?_, s2.cp (fun k hk => mv_out (by omega))⟩
        rw [show (st.2.1 :: p).length - 1 - j = (p.length - 1 - j) + 1 by show p.length + 1 - 1 - j = _; omega, List.getElem?_cons_succ]
        exact s1
  rw [c114, b114_0]
  simp only [fO a, sm_gI_s, sm_gR_s, sm_gJ_s, sm_cR_s, sm_al_s, sm_sw_s, sm_tl1, sm_tl0, sm_ap0, sm_ap1, List.getElem?_cons_zero, List.getElem?_cons_succ, nk10, nk11, if_true, eq_self, nI_eq (show st.2.2.1.length < 2 ^ 31 by omega) (show 8 < 2 ^ 31 by omega)]
  have rep : ∀ (h' : smH) (p : List Sh), MObj h' M p.length st.1.length q → MPast h' M p → IA h' (M + 1) 219 f → h'.2 = h.2 → (∀ a, a ≠ M → a ≠ M + 2 → h'.1 a = h.1 a) → RepM h' M (st.1, st.2.1, p, st.2.2.2) ∧ Fr h h' M (M + 16) := by
    intro h' p x1 x2 x3 x4 x5
    have kk : Fr h (((fun a => if a = M ∨ a = M + 2 then h.1 a else h'.1 a), h.2) : smH) M M := ⟨rfl, fun a _ => by
      show (if a = M ∨ a = M + 2 then h.1 a else h'.1 a) = _
      split
      · rfl
      · exact x5 a (by omega) (by omega)⟩
    obtain ⟨bf, b1, b2⟩ := b
    obtain ⟨⟨ef, e1, e2⟩, eg, e3, e4⟩ := e
    obtain ⟨⟨f1, i1⟩, ⟨f2, i2⟩, ⟨f3, i3⟩, ⟨f4, i4⟩, ⟨f5, i5⟩, ⟨f6, i6⟩, ⟨f7, i7⟩, ⟨f8, i8⟩, ⟨f9, i9⟩, f10, i10⟩ := i
    exact ⟨⟨⟨q, x1⟩, ⟨bf, (x5 _ (by omega) (by omega)).trans b1, b2⟩, ⟨f, x3, c2⟩, x2, ⟨⟨ef, (x5 _ (by omega) (by omega)).trans e1, e2⟩, eg, (x5 _ (by omega) (by omega)).trans e3, e4⟩, ⟨f1, (x5 _ (by omega) (by omega)).trans i1⟩, ⟨f2, (x5 _ (by omega) (by omega)).trans i2⟩, ⟨f3, (x5 _ (by omega) (by omega)).trans i3⟩, ⟨f4, (x5 _ (by omega) (by omega)).trans i4⟩, ⟨f5, (x5 _ (by omega) (by omega)).trans i5⟩, ⟨f6, (x5 _ (by omega) (by omega)).trans i6⟩, ⟨f7, (x5 _ (by omega) (by omega)).trans i7⟩, ⟨f8, (x5 _ (by omega) (by omega)).trans i8⟩, ⟨f9, (x5 _ (by omega) (by omega)).trans i9⟩, f10, (x5 _ (by omega) (by omega)).trans i10⟩, x4, fun a ha => x5 a (by omega) (by omega)⟩
  have same : ∀ h' : smH, IA h' (M + 1) 219 f → ∀ f2, IA h (M + 1) 219 f2 → IA h' (M + 1) 219 f2 := fun h' x f2 y => by
    have e0 : f2 = f := by
      have z := y.symm.trans c1
      injection z with z
      injection z with z
      injection z with _ z
      injection z with _ z
      injection z with z
    rw [e0]
    exact x
  by_cases h8 : st.2.2.1.length = 8
  · rw [if_pos h8]
    obtain ⟨h1, e1, q1, k1⟩ := m113s (X := X) (i := 219) (j := 0) (n := 1533) (show 219 + 1533 ≤ 1752 by omega) (by omega) (by omega) d1
    have a1 := a.fr k1 (by omega)
    have k2 : Fr h1 (sm_w h1 M (.inr (8, mo M 7 st.1.length q))) M (M + 1) := Fr.w
    have hl : (st.2.2.1.take 7).length = 7 := by rw [List.length_take]; omega
    have a2 : MObj (sm_w h1 M (.inr (8, mo M 7 st.1.length q))) M (st.2.2.1.take 7).length st.1.length q := by rw [hl]; exact a1.set
    obtain ⟨h3, e3, x1, x2, x3, x4, x5⟩ := fin _ (mv g 219 g 0 1533) (st.2.2.1.take 7) (by omega) a2 ((c1.fr k1 (by omega)).fr k2 (by omega)) (q1.fr k2 (by omega)) (fun j hj => by
      rw [hl] at hj
      obtain ⟨s, s1, s2⟩ := d3 (j + 1) (by omega)
      refine ⟨s, ?_, s2.cp (fun k hk => ?_)⟩
      · rw [hl, List.getElem?_take, if_pos (by omega), ← s1, h8, show 8 - 1 - (j + 1) = 7 - 1 - j by omega]
      · have := mv_in (f := g) (g := g) (i := 219) (j := 0) (n := 1533) (k := 219 * j + k) (by omega)
        rw [Nat.zero_add] at this
        rw [this, show 219 + (219 * j + k) = 219 * (j + 1) + k by omega])
    have hp : st.2.1 :: st.2.2.1.take 7 = (st.2.1 :: st.2.2.1).take 8 := rfl
    rw [hp] at x2
    have x1' : MObj h3 M ((st.2.1 :: st.2.2.1).take 8).length st.1.length q := x1
    obtain ⟨y1, y2⟩ := rep h3 _ x1' x2 x3 (x4.trans (k2.1.trans k1.1)) (fun z hz1 hz2 => (x5 z hz1 hz2).trans ((k2.2 z (by omega)).trans (k1.2 z (by omega))))
    refine ⟨h3, ?_, y1, same h3 x3, y2⟩
    rw [e1]
    simp only [sm_gI_s, sm_gR_s, sm_gJ_s, sm_cR_s, sm_al_s, sm_sw_s, sm_tl1, sm_tl0, sm_ap0, sm_ap1, List.getElem?_cons_zero, List.getElem?_cons_succ, nk10, nk11, if_true, eq_self, b114_27, fO a1, h8, pk_sub (show 1 ≤ 8 by omega)]
    rw [pO a1 (by show 2 < 18; omega)]
    exact e3
  · rw [if_neg h8]
    obtain ⟨h3, e3, x1, x2, x3, x4, x5⟩ := fin h g st.2.2.1 (by omega) a c1 d1 d3
    have hp : (st.2.1 :: st.2.2.1).take 8 = st.2.1 :: st.2.2.1 := List.take_of_length_le (by show st.2.2.1.length + 1 ≤ 8; omega)
    obtain ⟨y1, y2⟩ := rep h3 (st.2.1 :: st.2.2.1) x1 x2 x3 x4 x5
    rw [hp]
    exact ⟨h3, e3, y1, same h3 x3, y2⟩
