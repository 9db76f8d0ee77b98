/-! sign, keep, back of the reference -/
theorem m136 {X : smX} {h : smH} {M : Nat} {st : St} (r : RepM h M st) (x y z : Int32) : sm_C PP X 136 [.ref M, .int x, .int y, .int z] h = some (some (.int (qSign st x y z)), h) := by
  obtain ⟨⟨q, a⟩, -, ⟨f, c1, c2⟩, -⟩ := id r
  have h6 := c2.2.2.2.1.1
  unfold qSign
  rw [c136, b136_0, vO a, m119 r]
  simp only [sm_gI_s, sm_gR_s, sm_gJ_s, sm_cR_s, sm_al_s, sm_sw_s, sm_tl1, sm_tl0, sm_ap0, sm_ap1, List.getElem?_cons_zero, List.getElem?_cons_succ, nk10, nk11, if_true, eq_self, b136_7, bI_0, b136_28]
  rcases row_cs st.2.1 x y with ⟨e, j, he, hj, he31, rfl, rfl⟩ | hv
  · obtain ⟨c3, c4⟩ := c2.2.2.2.2 e he
    obtain ⟨p1, p2⟩ := c3.part hj
    have hlen := (c4.row hj).1
    simp only [vR_t he hj he31, if_true, nTN he31, nTN (show j < 2 ^ 31 by omega), Bool.true_and]
    rcases pl_cs (rowF st.2.1 e j) z with ⟨p, hp, hp31, rfl⟩ | hz
    · have hc : 3 + 36 * e + 32 * j + 1 + p < 219 := by split at hlen <;> omega
      simp only [vP_t hp hp31, if_true, nTN hp31]
      rw [if_neg (show ¬ (true = false) by decide), m118 (by omega) hj]
      simp only [sm_gI_s, sm_gR_s, sm_gJ_s, sm_cR_s, sm_al_s, sm_sw_s, sm_tl1, sm_tl0, sm_ap0, sm_ap1, List.getElem?_cons_zero, List.getElem?_cons_succ, nk10, nk11, if_true, eq_self, b136_19, nI_add, fO a, b136_28]
      rw [aO c1, ldO hc (by omega), p2 p hp]
    · have hz2 : vP (rowF st.2.1 e j) z = false := decide_eq_false hz
      rw [hz2, if_pos rfl, if_neg (show ¬ (false = true) by decide)]
  · rw [vR_f hv, Bool.false_and, if_pos rfl, if_neg (show ¬ (false = true) by decide)]
theorem vN2 {x : Int32} : decide ((nI 0).toInt ≤ x.toInt ∧ x.toInt ≤ (nI 1).toInt) = vN 2 x := by
  unfold vN
  rw [nI_toInt (by omega), nI_toInt (by omega)]
  congr 1
  exact propext ⟨fun h => by omega, fun h => by omega⟩
theorem m153 {X : smX} {h : smH} {M : Nat} {st : St} (r : RepM h M st) (x : Int32) : ∃ h', sm_C PP X 153 [.ref M, .int x] h = some (some (.int (opKeep st x).1), h') ∧ RepM h' M (opKeep st x).2 ∧ Fr h h' M (M + 16) := by
  obtain ⟨⟨q, a⟩, b, ⟨f, c1, c2⟩, d, ⟨⟨g, e1, e2⟩, g2, e3, e4⟩, i⟩ := id r
  unfold opKeep
  rw [c153, b153_0, m107, vN2]
  simp only [sm_gI_s, sm_gR_s, sm_gJ_s, sm_cR_s, sm_al_s, sm_sw_s, sm_tl1, sm_tl0, sm_ap0, sm_ap1, List.getElem?_cons_zero, List.getElem?_cons_succ, nk10, nk11, if_true, eq_self, b153_6, bI_0]
  rcases e_cs 2 x with ⟨k, hk, h31, rfl⟩ | hv
  · simp only [vN_t hk h31, if_true, nTN h31]
    rw [if_neg (show ¬ (true = false) by decide)]
    obtain ⟨h1, x1, q1, k1⟩ := m113 (X := X) (i := 0) (j := 219 * k) (n := 219) (show 0 + 219 ≤ 219 by omega) (show 219 * k + 219 ≤ 438 by omega) (by omega) (by omega) (show M + 1 ≠ M + 3 by omega) c1 e1
    have a1 := a.fr k1 (by omega)
    have k2 : Fr h1 (sm_w h1 (M + 4) (.inl (.boolean, 2, .inl (upd g2 k (bI true))))) (M + 4) (M + 5) := Fr.w
    have a2 := a1.fr k2 (by omega)
    have k3 : Fr h (sm_w h1 (M + 4) (.inl (.boolean, 2, .inl (upd g2 k (bI true))))) (M + 3) (M + 5) := (k1.mono (by omega) (by omega)).s (k2.mono (by omega) (by omega))
    refine ⟨sm_w h1 (M + 4) (.inl (.boolean, 2, .inl (upd g2 k (bI true)))), ?_, ⟨⟨q, a2⟩, b.fr k3 (by omega), ⟨f, c1.fr k3 (by omega), c2⟩, d.fr k3 (by omega), ⟨⟨_, q1.fr k2 (by omega), fun j hj s hs => ?_⟩, upd g2 k (bI true), w_eq, fun j hj => ?_⟩, i.fr k3 (by omega)⟩, k3.mono (by omega) (by omega)⟩
    · simp only [fO a, sm_gI_s, sm_gR_s, sm_gJ_s, sm_cR_s, sm_al_s, sm_sw_s, sm_tl1, sm_tl0, sm_ap0, sm_ap1, List.getElem?_cons_zero, List.getElem?_cons_succ, nk10, nk11, if_true, eq_self, pk_mul, x1, b153_31, fO a1, nb1]
      rw [stO (e3.fr k1 (by omega)) hk (by omega)]
      simp only [fO a2, sm_gI_s, sm_gR_s, sm_gJ_s, sm_cR_s, sm_al_s, sm_sw_s, sm_tl1, sm_tl0, sm_ap0, sm_ap1, List.getElem?_cons_zero, List.getElem?_cons_succ, nk10, nk11, if_true, eq_self]
      rw [aO ((c1.fr k3 (by omega) : IA _ (M + 1) 219 f)), ldO (show 0 < 219 by omega) (by omega), c2.1]
    · have hs2 : uP st.2.2.2 k (some st.2.1) j = some s := hs
      by_cases e0 : j = k
      · rw [e0, uP_eq] at hs2
        rw [e0, ← Option.some.inj hs2]
        exact c2.cp (fun y hy => by rw [mv_in hy])
      · rw [uP_ne e0] at hs2
        exact (e2 j hj s hs2).cp (fun y hy => mv_out (by omega))
    · show _ = bI (uP st.2.2.2 k (some st.2.1) j).isSome
      by_cases e0 : j = k
      · rw [e0, pk_us, uP_eq]; rfl
      · rw [pk_un e0, uP_ne e0]; exact e4 j hj
  · rw [vN_f hv, if_pos rfl, if_neg (show ¬ (false = true) by decide)]
    exact ⟨h, rfl, r, Fr.rf⟩
theorem m154 {X : smX} {h : smH} {M : Nat} {st : St} (r : RepM h M st) (x : Int32) : ∃ h', sm_C PP X 154 [.ref M, .int x] h = some (some (.int (opBack st x).1), h') ∧ RepM h' M (opBack st x).2 ∧ Fr h h' M (M + 16) := by
  obtain ⟨⟨q, a⟩, b, ⟨f, c1, c2⟩, ⟨pf, d1, d2, d3⟩, ⟨⟨g, e1, e2⟩, g2, e3, e4⟩, i⟩ := id r
  unfold opBack
  rw [c154, b154_0, m107, vN2]
  simp only [sm_gI_s, sm_gR_s, sm_gJ_s, sm_cR_s, sm_al_s, sm_sw_s, sm_tl1, sm_tl0, sm_ap0, sm_ap1, List.getElem?_cons_zero, List.getElem?_cons_succ, nk10, nk11, if_true, eq_self, b154_6, bI_0]
  rcases e_cs 2 x with ⟨k, hk, h31, rfl⟩ | hv
  · simp only [vN_t hk h31, if_true, nTN h31, fO a, sm_gI_s, sm_gR_s, sm_gJ_s, sm_cR_s, sm_al_s, sm_sw_s, sm_tl1, sm_tl0, sm_ap0, sm_ap1, List.getElem?_cons_zero, List.getElem?_cons_succ, nk10, nk11, if_true, eq_self]
    rw [if_neg (show ¬ (true = false) by decide), aO e3, ldO hk (by omega), e4 k hk]
    cases ei : st.2.2.2 k with
    | none =>
      rw [if_pos (show bI (Option.isSome (none : Option Sh)) = 0 from rfl)]
      exact ⟨h, rfl, r, Fr.rf⟩
    | some s =>
      rw [if_neg (show ¬ bI (Option.isSome (some s)) = 0 by show ¬ bI true = 0; decide), pk_mul]
      obtain ⟨h1, x1, q1, k1⟩ := m113 (X := X) (i := 219 * k) (j := 0) (n := 219) (show 219 * k + 219 ≤ 438 by omega) (show 0 + 219 ≤ 219 by omega) (by omega) (by omega) (show M + 3 ≠ M + 1 by omega) e1 c1
      have a1 := a.fr k1 (by omega)
      have s1 := e2 k hk s ei
      have k2 : Fr h1 (sm_w h1 M (.inr (8, mo M 0 st.1.length q))) M (M + 1) := Fr.w
      have a2 : MObj (sm_w h1 M (.inr (8, mo M 0 st.1.length q))) M 0 st.1.length q := w_eq
      have q2 := q1.fr k2 (by omega)
      have kf : ∀ y, y ≠ M → y ≠ M + 1 → (sm_w h1 M (.inr (8, mo M 0 st.1.length q))).1 y = h.1 y := fun y h1 h2 => (w_ne h1).trans (k1.2 _ (by omega))
      refine ⟨sm_w h1 M (.inr (8, mo M 0 st.1.length q)), ?_, ⟨⟨q, a2⟩, (b.fr k1 (by omega)).fr k2 (by omega), ⟨_, q2, s1.cp (fun y hy => mv_in hy)⟩, ⟨pf, (d1.fr k1 (by omega)).fr k2 (by omega), Nat.zero_le _, fun j hj => absurd hj (Nat.not_lt_zero j)⟩, ⟨⟨g, (e1.fr k1 (by omega)).fr k2 (by omega), e2⟩, g2, (e3.fr k1 (by omega)).fr k2 (by omega), e4⟩, (i.fr k1 (by omega)).fr k2 (by omega)⟩, (k1.mono (by omega) (by omega)).s (k2.mono (by omega) (by omega))⟩
      rw [x1]
      simp only [sm_gI_s, sm_gR_s, sm_gJ_s, sm_cR_s, sm_al_s, sm_sw_s, sm_tl1, sm_tl0, sm_ap0, sm_ap1, List.getElem?_cons_zero, List.getElem?_cons_succ, nk10, nk11, if_true, eq_self, b154_43, pMd a1, fO a2]
      rw [aO q2, ldO (show 0 < 219 by omega) (by omega), show mv g (219 * k) f 0 219 0 = g (219 * k + 0) from mv_in (k := 0) (by omega), Nat.add_zero, s1.1]
  · rw [vN_f hv, if_pos rfl, if_neg (show ¬ (false = true) by decide)]
    exact ⟨h, rfl, r, Fr.rf⟩
