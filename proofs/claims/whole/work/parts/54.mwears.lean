/-! wears, slacks, totals, undo of the reference -/
theorem RepM.now {h h' : smH} {M : Nat} {st : St} {s} (r : RepM h M st) (k : Fr h h' (M + 1) (M + 2)) (t : MNow h' M s) : RepM h' M (st.1, s, st.2.2) := by
  obtain ⟨⟨q, a⟩, b, c, d, e, g⟩ := r
  exact ⟨⟨q, a.fr k (by omega)⟩, b.fr k (by omega), t, d.fr k (by omega), e.fr k (by omega), g.fr k (by omega)⟩
theorem m120 {X : smX} {h : smH} {M : Nat} {st : St} (r : RepM h M st) (x y z : Int32) : ∃ h', sm_C PP X 120 [.ref M, .int x, .int y, .int z] h = some (some (.int (opWears st x y z).1), h') ∧ RepM h' M (opWears st x y z).2 ∧ Fr h h' M (M + 16) := by
  obtain ⟨⟨q, a⟩, -, ⟨f, c1, c2⟩, -⟩ := id r
  have h6 := c2.2.2.2.1.1
  unfold opWears
  rw [c120, b120_0, vO a, m119 r]
  simp only [sm_gI_s, sm_gR_s, sm_gJ_s, sm_cR_s, sm_al_s, sm_sw_s, sm_tl1, sm_tl0, sm_ap0, sm_ap1, List.getElem?_cons_zero, List.getElem?_cons_succ, nk10, nk11, if_true, eq_self, b120_7, bI_0]
  rcases row_cs st.2.1 x y with ⟨e, j, he, hj, he31, rfl, rfl⟩ | hv
  · obtain ⟨c3, c4⟩ := c2.2.2.2.2 e he
    obtain ⟨p1, p2⟩ := c3.part hj
    have hlen := (c4.row hj).1
    simp only [vR_t he hj he31, if_true, nTN he31, nTN (show j < 2 ^ 31 by omega), Bool.true_and]
    rcases pl_cs (rowF st.2.1 e j) z with ⟨p, hp, hp31, rfl⟩ | hz
    · have hA := (c4.row hj).2 p
      have hc : 3 + 36 * e + 32 * j + 1 + p < 219 := by split at hlen <;> omega
      simp only [vP_t hp hp31, if_true, nTN hp31]
      rw [if_neg (show ¬ (true = false) by decide), m118 (by omega) hj]
      simp only [sm_gI_s, sm_gR_s, sm_gJ_s, sm_cR_s, sm_al_s, sm_sw_s, sm_tl1, sm_tl0, sm_ap0, sm_ap1, List.getElem?_cons_zero, List.getElem?_cons_succ, nk10, nk11, if_true, eq_self, b120_17, nI_add, fO a, b120_46]
      rw [aO c1, ldO hc (by omega), p2 p hp]
      simp only [nI_eq (show nA (rowF st.2.1 e j) p < 2 ^ 31 by omega) (show 63 < 2 ^ 31 by omega), nI_eq (show nA (rowF st.2.1 e j) p < 2 ^ 31 by omega) (show 32 < 2 ^ 31 by omega)]
      by_cases h1 : nA (rowF st.2.1 e j) p = 63
      · rw [if_pos h1, if_pos (Or.inl h1)]
        exact ⟨h, rfl, r, Fr.rf⟩
      · rw [if_neg h1]
        by_cases h2 : nA (rowF st.2.1 e j) p = 32
        · rw [if_pos h2, if_pos (Or.inr h2)]
          exact ⟨h, rfl, r, Fr.rf⟩
        · rw [if_neg h2, if_neg (by omega), vO a]
          obtain ⟨h2', e2, r2, i2, k2⟩ := m114 (X := X) r
          obtain ⟨⟨q2, a2⟩, -⟩ := id r2
          have k3 : Fr h2' (sm_w h2' (M + 1) (.inl (.int, 219, .inl (upd f (3 + 36 * e + 32 * j + 1 + p) (nI 63))))) (M + 1) (M + 2) := Fr.w
          have r3 := r2.now k3 ⟨_, w_eq, c2.sR he hj hp (show 63 < 256 by omega) (fun _ => Or.inl rfl)⟩
          rw [e2]
          simp only [sm_gI_s, sm_gR_s, sm_gJ_s, sm_cR_s, sm_al_s, sm_sw_s, sm_tl1, sm_tl0, sm_ap0, sm_ap1, List.getElem?_cons_zero, List.getElem?_cons_succ, nk10, nk11, if_true, eq_self, b120_53, fO a2]
          rw [stO (i2 f c1) hc (by omega)]
          exact ⟨_, rfl, r3, k2.s (k3.mono (by omega) (by omega))⟩
    · have hz2 : vP (rowF st.2.1 e j) z = false := decide_eq_false hz
      rw [hz2, if_pos rfl, if_neg (show ¬ (false = true) by decide)]
      exact ⟨h, rfl, r, Fr.rf⟩
  · rw [vR_f hv, Bool.false_and, if_pos rfl, if_neg (show ¬ (false = true) by decide)]
    exact ⟨h, rfl, r, Fr.rf⟩
/-- a number of the sheet is told anew -/
theorem m123 {X : smX} {h : smH} {M i : Nat} {st : St} {v : Int32} {s : Sh} {f : Nat → Int32} (r : RepM h M st) (c1 : IA h (M + 1) 219 f) (hi : i < 219) (he : Enc (upd f i v) 0 s) : ∃ h', sm_C PP X 123 [.ref M, .int (nI i), .int v] h = some (some (.int (if f i = v then -nI 2 else f i)), h') ∧ (if f i = v then h' = h else RepM h' M (chg st s)) ∧ Fr h h' M (M + 16) := by
  obtain ⟨⟨q, a⟩, -⟩ := id r
  rw [c123, b123_0]
  simp only [fO a, sm_gI_s, sm_gR_s, sm_gJ_s, sm_cR_s, sm_al_s, sm_sw_s, sm_tl1, sm_tl0, sm_ap0, sm_ap1, List.getElem?_cons_zero, List.getElem?_cons_succ, nk10, nk11, if_true, eq_self]
  rw [aO c1, ldO hi (by omega)]
  by_cases h0 : f i = v
  · rw [if_pos h0, if_pos h0]
    exact ⟨h, rfl, by rw [if_pos h0], Fr.rf⟩
  · rw [if_neg h0, vO a]
    simp only [if_neg h0]
    obtain ⟨h2', e2, r2, i2, k2⟩ := m114 (X := X) r
    obtain ⟨⟨q2, a2⟩, -⟩ := id r2
    have k3 : Fr h2' (sm_w h2' (M + 1) (.inl (.int, 219, .inl (upd f i v)))) (M + 1) (M + 2) := Fr.w
    rw [e2]
    simp only [sm_gI_s, sm_gR_s, sm_gJ_s, sm_cR_s, sm_al_s, sm_sw_s, sm_tl1, sm_tl0, sm_ap0, sm_ap1, List.getElem?_cons_zero, List.getElem?_cons_succ, nk10, nk11, if_true, eq_self, b123_19, fO a2]
    rw [stO (i2 f c1) hi (by omega)]
    exact ⟨_, rfl, r2.now k3 ⟨_, w_eq, he⟩, k2.s (k3.mono (by omega) (by omega))⟩
theorem m124 {X : smX} {h : smH} {M : Nat} {st : St} (r : RepM h M st) (x : Int32) : ∃ h', sm_C PP X 124 [.ref M, .int x] h = some (some (.int (opSlacks st x).1), h') ∧ RepM h' M (opSlacks st x).2 ∧ Fr h h' M (M + 16) := by
  obtain ⟨⟨q, a⟩, -, ⟨f, c1, c2⟩, -⟩ := id r
  have hs := c2.2.2.2.1.2.1
  unfold opSlacks
  rw [c124, b124_0, m107]
  simp only [sm_gI_s, sm_gR_s, sm_gJ_s, sm_cR_s, sm_al_s, sm_sw_s, sm_tl1, sm_tl0, sm_ap0, sm_ap1, List.getElem?_cons_zero, List.getElem?_cons_succ, nk10, nk11, if_true, eq_self, b124_6, bI_0, b124_19, show (nI 0).toInt = 0 by decide, show (nI 2).toInt = 2 by decide]
  by_cases hv : 0 ≤ x.toInt ∧ x.toInt ≤ 2
  · rw [decide_eq_true hv, if_neg (show ¬ (true = false) by decide), if_pos hv, vO a]
    obtain ⟨c, hc, rfl⟩ := i_nat hv.1
    rw [nI_toInt hc] at hv ⊢
    rw [Int.toNat_natCast]
    have f1 : f 1 = nI st.2.1.2.1 := c2.2.1
    obtain ⟨h1, e1, r1, k1⟩ := m123 (X := X) (i := 1) (v := nI c) (s := (st.2.1.1, c, st.2.1.2.2)) r c1 (by omega) ⟨by rw [pk_un (by omega)]; exact c2.1, pk_us, by rw [pk_un (by omega)]; exact c2.2.2.1, ⟨c2.2.2.2.1.1, by show c ≤ 2; omega, c2.2.2.2.1.2.2⟩, fun e he => ⟨(c2.2.2.2.2 e he).1.oth (c2.2.2.2.2 e he).2 (by omega), (c2.2.2.2.2 e he).2⟩⟩
    rw [e1]
    simp only [sm_gI_s, sm_gR_s, sm_gJ_s, sm_cR_s, sm_al_s, sm_sw_s, sm_tl1, sm_tl0, sm_ap0, sm_ap1, List.getElem?_cons_zero, List.getElem?_cons_succ, nk10, nk11, if_true, eq_self, b124_15, b124_19]
    simp only [f1, nI_eq (show st.2.1.2.1 < 2 ^ 31 by omega) hc] at r1 ⊢
    by_cases h0 : st.2.1.2.1 = c
    · rw [if_pos h0] at r1
      rw [if_pos h0, if_pos h0.symm]
      subst r1
      exact ⟨h1, rfl, r, Fr.rf⟩
    · rw [if_neg h0] at r1
      rw [if_neg h0, if_neg (fun q => h0 q.symm)]
      exact ⟨h1, rfl, r1, k1⟩
  · rw [decide_eq_false hv, if_pos rfl, if_neg hv]
    exact ⟨h, rfl, r, Fr.rf⟩
theorem m125 {X : smX} {h : smH} {M : Nat} {st : St} (r : RepM h M st) (x : Int32) : ∃ h', sm_C PP X 125 [.ref M, .int x] h = some (some (.int (opTotals st x).1), h') ∧ RepM h' M (opTotals st x).2 ∧ Fr h h' M (M + 16) := by
  obtain ⟨⟨q, a⟩, -, ⟨f, c1, c2⟩, -⟩ := id r
  have ht := c2.2.2.2.1.2.2
  have n9 : (-nI 9 : Int32).toInt = -9 := by decide
  have hE : sm_C PP X 125 [.ref M, .int x] h = (match totO x with
    | some _ => sm_E PP X 125 17 [(0, .ref M), (1, .int x)] [] h
    | none => some (some (.int (-nI 1)), h)) := by
    rw [c125, b125_0, m107]
    simp only [sm_gI_s, sm_gR_s, sm_gJ_s, sm_cR_s, sm_al_s, sm_sw_s, sm_tl1, sm_tl0, sm_ap0, sm_ap1, List.getElem?_cons_zero, List.getElem?_cons_succ, nk10, nk11, if_true, eq_self, b125_8, bI_0, b125_27, show (nI 0).toInt = 0 by decide, show (nI 9999).toInt = 9999 by decide]
    unfold totO
    by_cases hv : 0 ≤ x.toInt ∧ x.toInt ≤ 9999
    · rw [decide_eq_true hv, if_neg (show ¬ (true = false) by decide), if_neg (by rw [i_eq, n9]; omega), if_pos hv]
    · rw [decide_eq_false hv, if_pos rfl]
      by_cases h9 : x = -nI 9
      · rw [if_pos h9, if_pos h9]
      · rw [if_neg h9, if_neg h9, if_neg hv]
  rw [hE]
  unfold opTotals
  cases eo : totO x with
  | none => exact ⟨h, rfl, r, Fr.rf⟩
  | some o =>
    obtain ⟨rfl, g2⟩ := totO_ok eo
    have f2 : f 2 = oI st.2.1.2.2 := c2.2.2.1
    obtain ⟨h1, e1, r1, k1⟩ := m123 (X := X) (i := 2) (v := oI o) (s := (st.2.1.1, st.2.1.2.1, o)) r c1 (by omega) ⟨by rw [pk_un (by omega)]; exact c2.1, by rw [pk_un (by omega)]; exact c2.2.1, pk_us, ⟨c2.2.2.2.1.1, c2.2.2.2.1.2.1, g2⟩, fun e he => ⟨(c2.2.2.2.2 e he).1.oth (c2.2.2.2.2 e he).2 (by omega), (c2.2.2.2.2 e he).2⟩⟩
    dsimp only
    rw [b125_17, vO a, e1]
    simp only [sm_gI_s, sm_gR_s, sm_gJ_s, sm_cR_s, sm_al_s, sm_sw_s, sm_tl1, sm_tl0, sm_ap0, sm_ap1, List.getElem?_cons_zero, List.getElem?_cons_succ, nk10, nk11, if_true, eq_self, b125_23, b125_27]
    simp only [f2, oI_inj (a := st.2.1.2.2) (b := o) (fun k hk => by have := ht k hk; omega) (fun k hk => by have := g2 k hk; omega)] at r1 ⊢
    by_cases h0 : st.2.1.2.2 = o
    · rw [if_pos h0] at r1
      rw [if_pos h0, if_pos h0.symm]
      subst r1
      exact ⟨h1, rfl, r, Fr.rf⟩
    · rw [if_neg h0] at r1
      rw [if_neg h0, if_neg (fun q => h0 q.symm)]
      exact ⟨h1, rfl, r1, k1⟩
