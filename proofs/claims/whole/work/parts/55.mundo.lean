/-! undo, makes of the reference -/
theorem pMd {h : smH} {M d l q d2 : Nat} {κ : smH → smR} (x : MObj h M d l q) : sm_fP h M 8 2 (.int (nI d2)) κ = κ (sm_w h M (.inr (8, mo M d2 l q))) := by
  rw [pO x (by show 2 < 18; omega)]
  rfl
theorem m126 {X : smX} {h : smH} {M : Nat} {st : St} (r : RepM h M st) : ∃ h', sm_C PP X 126 [.ref M] h = some (some (.int (opUndo st).1), h') ∧ RepM h' M (opUndo st).2 ∧ Fr h h' M (M + 16) := by
  obtain ⟨⟨q, a⟩, b, ⟨f, c1, c2⟩, ⟨g, d1, d2, d3⟩, e, i⟩ := id r
  unfold opUndo
  rw [c126, b126_0]
  simp only [fO a, sm_gI_s, sm_gR_s, sm_gJ_s, sm_cR_s, sm_al_s, sm_sw_s, sm_tl1, sm_tl0, sm_ap0, sm_ap1, List.getElem?_cons_zero, List.getElem?_cons_succ, nk10, nk11, if_true, eq_self]
  cases ep : st.2.2.1 with
  | nil =>
    rw [if_pos (by decide)]
    exact ⟨h, rfl, r, Fr.rf⟩
  | cons s p =>
    rw [ep] at a d2 d3
    have hl : p.length + 1 ≤ 8 := d2
    rw [if_neg (show ¬ nI (s :: p).length = 0 from nI_ne0 (n := p.length + 1) (by omega) (by omega)), show (s :: p).length = p.length + 1 from rfl, pk_sub (by omega), Nat.add_sub_cancel, pMd a]
    have k1 : Fr h (sm_w h M (.inr (8, mo M p.length st.1.length q))) M (M + 1) := Fr.w
    have a1 : MObj (sm_w h M (.inr (8, mo M p.length st.1.length q))) M p.length st.1.length q := w_eq
    obtain ⟨h2, e2, q2, k2⟩ := m113 (X := X) (i := 219 * p.length) (j := 0) (n := 219) (show 219 * p.length + 219 ≤ 1752 by omega) (show 0 + 219 ≤ 219 by omega) (by omega) (by omega) (show M + 2 ≠ M + 1 by omega) (d1.fr k1 (by omega)) (c1.fr k1 (by omega))
    have a2 := a1.fr k2 (by omega)
    obtain ⟨s0, s1, s2⟩ := d3 p.length (by show p.length < p.length + 1; omega)
    have hs : s0 = s := by
      rw [show (s :: p).length - 1 - p.length = 0 by show p.length + 1 - 1 - p.length = 0; omega] at s1
      exact (Option.some.inj s1).symm
    subst hs
    refine ⟨h2, ?_, ⟨⟨q, a2⟩, (b.fr k1 (by omega)).fr k2 (by omega), ⟨_, q2, s2.cp (fun k hk => mv_in hk)⟩, ⟨g, (d1.fr k1 (by omega)).fr k2 (by omega), by show p.length ≤ 8; omega, fun j hj => ?_⟩, (e.fr k1 (by omega)).fr k2 (by omega), (i.fr k1 (by omega)).fr k2 (by omega)⟩, (k1.mono (by omega) (by omega)).s (k2.mono (by omega) (by omega))⟩
    · simp only [fO a1, sm_gI_s, sm_gR_s, sm_gJ_s, sm_cR_s, sm_al_s, sm_sw_s, sm_tl1, sm_tl0, sm_ap0, sm_ap1, List.getElem?_cons_zero, List.getElem?_cons_succ, nk10, nk11, if_true, eq_self, pk_mul, e2, b126_43, fO a2]
    · have hj2 : j < p.length := hj
      obtain ⟨t, t1, t2⟩ := d3 j (by show j < p.length + 1; omega)
      rw [show (s0 :: p).length - 1 - j = (p.length - 1 - j) + 1 by show p.length + 1 - 1 - j = _; omega, List.getElem?_cons_succ] at t1
      exact ⟨t, t1, t2⟩
theorem m121_in {X : smX} {h : smH} {M e j x : Nat} {ws : List Nat} {f : Nat → Int32} {d l q : Nat} (a : MObj h M d l q) (c1 : IA h (M + 1) 219 f) (hx : x + 1 + ws.length ≤ 219) (hA : ∀ k, nA ws k < 256) (p1 : f x = nI ws.length) (p2 : ∀ k, k < ws.length → f (x + 1 + k) = nI (nA ws k)) : ∀ (r k n : Nat), k + r = ws.length → sm_E PP X 121 19 [(0, .ref M), (1, .int (nI e)), (2, .int (nI n)), (3, .int (nI j)), (4, .int (nI x)), (5, .int (nI (k + 1)))] [] h = sm_E PP X 121 4 [(0, .ref M), (1, .int (nI e)), (2, .int (nI (n + (ws.drop k).count 63))), (3, .int (nI (j + 1)))] [] h := by
  intro r
  induction r with
  | zero =>
    intro k n hk
    rw [b121_19]
    simp only [fO a, sm_gI_s, sm_gR_s, sm_gJ_s, sm_cR_s, sm_al_s, sm_sw_s, sm_tl1, sm_tl0, sm_ap0, sm_ap1, List.getElem?_cons_zero, List.getElem?_cons_succ, nk10, nk11, if_true, eq_self]
    rw [aO c1, ldO (show x < 219 by omega) (by omega), p1, if_pos (nI_lt (by omega) (by omega)), nI_add, List.drop_eq_nil_of_le (by omega)]
    rfl
  | succ r ih =>
    intro k n hk
    have hAk := hA k
    rw [b121_19]
    simp only [fO a, sm_gI_s, sm_gR_s, sm_gJ_s, sm_cR_s, sm_al_s, sm_sw_s, sm_tl1, sm_tl0, sm_ap0, sm_ap1, List.getElem?_cons_zero, List.getElem?_cons_succ, nk10, nk11, if_true, eq_self, nI_add]
    rw [aO c1, ldO (show x < 219 by omega) (by omega), p1, if_neg (nI_nlt (by omega) (by omega)), ldO (show x + (k + 1) < 219 by omega) (by omega), show x + (k + 1) = x + 1 + k by omega, p2 k (by omega), drop_nA (by omega)]
    simp only [nI_eq (show nA ws k < 2 ^ 31 by omega) (show 63 < 2 ^ 31 by omega), b121_52, nI_add]
    by_cases h1 : nA ws k = 63
    · rw [if_pos h1, h1, List.count_cons_self, ih (k + 1) (n + 1) (by omega), Nat.add_assoc n 1, Nat.add_comm 1]
    · rw [if_neg h1, List.count_cons_of_ne h1, ih (k + 1) (n + 0) (by omega), Nat.add_zero]
theorem m121 {X : smX} {h : smH} {M e : Nat} {st : St} (r : RepM h M st) (he : e < st.2.1.1.length) : sm_C PP X 121 [.ref M, .int (nI e)] h = some (some (.int (nI (wornE (en st.2.1 e)))), h) := by
  obtain ⟨⟨q, a⟩, -, ⟨f, c1, c2⟩, -⟩ := r
  have h6 := c2.2.2.2.1.1
  obtain ⟨c3, c4⟩ := c2.2.2.2.2 e he
  have q0 := c3.part (s := st.2.1) (e := e) (j := 0) (by omega)
  have q1 := c3.part (s := st.2.1) (e := e) (j := 1) (by omega)
  have o0 := c4.row (s := st.2.1) (e := e) (j := 0) (by omega)
  have o1 := c4.row (s := st.2.1) (e := e) (j := 1) (by omega)
  have z0 : (rowF st.2.1 e 0).length ≤ 31 := o0.1
  have z1 : (rowF st.2.1 e 1).length ≤ 3 := o1.1
  have s0 := m121_in (X := X) (e := e) (j := 0) (x := 3 + 36 * e + 32 * 0) a c1 (show 3 + 36 * e + 32 * 0 + 1 + (rowF st.2.1 e 0).length ≤ 219 by omega) o0.2 q0.1 q0.2 (rowF st.2.1 e 0).length 0 0 (by omega)
  have s1 := m121_in (X := X) (e := e) (j := 1) (x := 3 + 36 * e + 32 * 1) a c1 (show 3 + 36 * e + 32 * 1 + 1 + (rowF st.2.1 e 1).length ≤ 219 by omega) o1.2 q1.1 q1.2 (rowF st.2.1 e 1).length 0 (0 + ((rowF st.2.1 e 0).drop 0).count 63) (by omega)
  rw [c121, b121_0, b121_4, if_neg (by decide), m118 (by omega) (by omega)]
  simp only [sm_gI_s, sm_gR_s, sm_gJ_s, sm_cR_s, sm_al_s, sm_sw_s, sm_tl1, sm_tl0, sm_ap0, sm_ap1, List.getElem?_cons_zero, List.getElem?_cons_succ, nk10, nk11, if_true, eq_self, b121_14]
  rw [show (nI 1 : Int32) = nI (0 + 1) from rfl, s0, b121_4, if_neg (by decide), m118 (by omega) (by omega)]
  simp only [sm_gI_s, sm_gR_s, sm_gJ_s, sm_cR_s, sm_al_s, sm_sw_s, sm_tl1, sm_tl0, sm_ap0, sm_ap1, List.getElem?_cons_zero, List.getElem?_cons_succ, nk10, nk11, if_true, eq_self, b121_14]
  rw [show (nI 1 : Int32) = nI (0 + 1) from rfl, s1, b121_4, if_pos (by decide), List.drop_zero, List.drop_zero, Nat.zero_add]
  rfl
theorem m122 {X : smX} {h : smH} {M : Nat} {st : St} (r : RepM h M st) (x y z c : Int32) : ∃ h', sm_C PP X 122 [.ref M, .int x, .int y, .int z, .int c] h = some (some (.int (opMakes st x y z c).1), h') ∧ RepM h' M (opMakes st x y z c).2 ∧ Fr h h' M (M + 16) := by
  obtain ⟨⟨q, a⟩, -, ⟨f, c1, c2⟩, -⟩ := id r
  have h6 := c2.2.2.2.1.1
  have hE : ∃ ok : Bool, (∀ j, j < 2 → y = nI j → ok = okS j c) ∧ sm_C PP X 122 [.ref M, .int x, .int y, .int z, .int c] h = sm_E PP X 122 25 [(0, .ref M), (1, .int x), (2, .int y), (3, .int z), (4, .int c)] [.int (bI ok)] h := by
    rw [c122, b122_0]
    by_cases h0 : y = 0
    · refine ⟨decide (97 ≤ c.toInt ∧ c.toInt ≤ 122), fun j hj hy => ?_, ?_⟩
      · rw [h0] at hy
        have : j = 0 := by
          have := (nI_eq (show 0 < 2 ^ 31 by omega) (show j < 2 ^ 31 by omega)).mp hy
          omega
        subst this
        unfold okS
        simp
      · rw [if_pos h0, m107]
        simp only [sm_gI_s, sm_gR_s, sm_gJ_s, sm_cR_s, sm_al_s, sm_sw_s, sm_tl1, sm_tl0, sm_ap0, sm_ap1, List.getElem?_cons_zero, List.getElem?_cons_succ, nk10, nk11, if_true, eq_self, b122_13, show (nI 97).toInt = 97 by decide, show (nI 122).toInt = 122 by decide]
    · refine ⟨decide (48 ≤ c.toInt ∧ c.toInt ≤ 57), fun j hj hy => ?_, ?_⟩
      · have : j ≠ 0 := fun q => h0 (by rw [hy, q]; rfl)
        unfold okS
        simp [this]
      · rw [if_neg h0, m107]
        simp only [sm_gI_s, sm_gR_s, sm_gJ_s, sm_cR_s, sm_al_s, sm_sw_s, sm_tl1, sm_tl0, sm_ap0, sm_ap1, List.getElem?_cons_zero, List.getElem?_cons_succ, nk10, nk11, if_true, eq_self, show (nI 48).toInt = 48 by decide, show (nI 57).toInt = 57 by decide]
  obtain ⟨ok, ok1, ok2⟩ := hE
  rw [ok2, b122_25, vO a, m119 r]
  simp only [sm_gI_s, sm_gR_s, sm_gJ_s, sm_cR_s, sm_al_s, sm_sw_s, sm_tl1, sm_tl0, sm_ap0, sm_ap1, List.getElem?_cons_zero, List.getElem?_cons_succ, nk10, nk11, if_true, eq_self, b122_34, bI_0, b122_42]
  unfold opMakes
  rcases row_cs st.2.1 x y with ⟨e, j, he, hj, he31, rfl, rfl⟩ | hv
  · obtain ⟨c3, c4⟩ := c2.2.2.2.2 e he
    obtain ⟨p1, p2⟩ := c3.part hj
    have hlen := (c4.row hj).1
    rw [ok1 j hj rfl]
    simp only [vR_t he hj he31, if_true, nTN he31, nTN (show j < 2 ^ 31 by omega), Bool.true_and]
    rcases pl_cs (rowF st.2.1 e j) z with ⟨p, hp, hp31, rfl⟩ | hz
    · have hA := (c4.row hj).2 p
      have hc : 3 + 36 * e + 32 * j + 1 + p < 219 := by split at hlen <;> omega
      simp only [vP_t hp hp31, nTN hp31]
      rw [if_neg (show ¬ (true = false) by decide)]
      cases eo : okS j c with
      | false =>
        rw [if_pos rfl, if_neg (fun q => by cases q.2)]
        exact ⟨h, rfl, r, Fr.rf⟩
      | true =>
        obtain ⟨k, hk, rfl⟩ := okS_n eo
        have hk2 := of_decide_eq_true eo
        rw [nI_toInt (by omega)] at hk2
        rw [if_neg (show ¬ (true = false) by decide), if_pos ⟨trivial, rfl⟩, nTN (by omega), m118 (by omega) hj]
        simp only [sm_gI_s, sm_gR_s, sm_gJ_s, sm_cR_s, sm_al_s, sm_sw_s, sm_tl1, sm_tl0, sm_ap0, sm_ap1, List.getElem?_cons_zero, List.getElem?_cons_succ, nk10, nk11, if_true, eq_self, b122_49, nI_add, fO a]
        rw [aO c1, ldO hc (by omega), p2 p hp]
        simp only [nI_eq (show nA (rowF st.2.1 e j) p < 2 ^ 31 by omega) (show 63 < 2 ^ 31 by omega)]
        by_cases h1 : nA (rowF st.2.1 e j) p = 63
        · rw [if_pos h1, if_pos h1, vO a]
          obtain ⟨h2', e2, r2, i2, k2⟩ := m114 (X := X) r
          obtain ⟨⟨q2, a2⟩, -⟩ := id r2
          have k3 : Fr h2' (sm_w h2' (M + 1) (.inl (.int, 219, .inl (upd f (3 + 36 * e + 32 * j + 1 + p) (nI k))))) (M + 1) (M + 2) := Fr.w
          have r3 := r2.now k3 ⟨_, w_eq, c2.sR he hj hp (show k < 256 by omega) (fun h0 => Or.inr (by omega))⟩
          have hlen3 : e < (setR st.2.1 e j p k).1.length := by
            show e < (st.2.1.1.set e _).length
            rw [List.length_set]; exact he
          have a3 := a2.fr k3 (by omega)
          have w3 := m121 (X := X) r3 (e := e) hlen3
          rw [e2]
          simp only [sm_gI_s, sm_gR_s, sm_gJ_s, sm_cR_s, sm_al_s, sm_sw_s, sm_tl1, sm_tl0, sm_ap0, sm_ap1, List.getElem?_cons_zero, List.getElem?_cons_succ, nk10, nk11, if_true, eq_self, b122_74, fO a2]
          rw [stO (i2 f c1) hc (by omega), vO a3, w3]
          simp only [sm_gI_s, sm_gR_s, sm_gJ_s, sm_cR_s, sm_al_s, sm_sw_s, sm_tl1, sm_tl0, sm_ap0, sm_ap1, List.getElem?_cons_zero, List.getElem?_cons_succ, nk10, nk11, if_true, eq_self, b122_88]
          exact ⟨_, rfl, r3, k2.s (k3.mono (by omega) (by omega))⟩
        · rw [if_neg h1, if_neg h1]
          exact ⟨h, rfl, r, Fr.rf⟩
    · have hz2 : vP (rowF st.2.1 e j) z = false := decide_eq_false hz
      rw [hz2, if_pos rfl, if_neg (fun q => by cases q.1)]
      exact ⟨h, rfl, r, Fr.rf⟩
  · rw [vR_f hv, Bool.false_and, if_pos rfl, if_neg (show ¬ (false = true) by decide)]
    exact ⟨h, rfl, r, Fr.rf⟩
