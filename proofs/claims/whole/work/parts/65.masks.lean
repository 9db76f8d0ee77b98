/-! entry, doubt, ranked, word of the reference -/
theorem ag_bd {ws fs : List Nat} {sl : Nat} (hw : ws.length ≤ 31) (hf : fs.length ≤ 3) : ∀ r n k : Nat, k < (agl ws fs sl r n).length → pN (agl ws fs sl r n) k < n + r ∧ pD (agl ws fs sl r n) k < 100 := by
  intro r
  induction r with
  | zero => intro n k h; exact absurd h (Nat.not_lt_zero k)
  | succ r ih =>
    intro n k h
    cases e2 : dF fs n with
    | none =>
      rw [agl_n (Or.inl e2)] at h ⊢
      have := ih (n + 1) k h
      exact ⟨by omega, this.2⟩
    | some b =>
      cases e1 : dW ws sl n with
      | none =>
        rw [agl_n (Or.inr e1)] at h ⊢
        have := ih (n + 1) k h
        exact ⟨by omega, this.2⟩
      | some a =>
        rw [agl_s e1 e2] at h ⊢
        have b1 := dW_le hw e1
        have b2 := dF_le hf e2
        cases k with
        | zero =>
          refine ⟨?_, ?_⟩
          · show n < _; omega
          · show a + b < 100; omega
        | succ k =>
          have := ih (n + 1) k (by simpa using h)
          refine ⟨?_, this.2⟩
          show pN (agl ws fs sl r (n + 1)) k < _
          omega
theorem Enc.ok {f : Nat → Int32} {o : Nat} {s : Sh} (x : Enc f o s) : agOk s := fun i hi k hk => by
  have c := (x.2.2.2.2 i hi).2
  have := ag_bd c.1 c.2.1 1000 0 k hk
  rw [Nat.zero_add] at this
  exact this
theorem RepM.ok {h : smH} {M : Nat} {st : St} (r : RepM h M st) : agOk st.2.1 := r.2.2.1.choose_spec.2.ok
theorem RepM.h6 {h : smH} {M : Nat} {st : St} (r : RepM h M st) : st.2.1.1.length ≤ 6 := r.2.2.1.choose_spec.2.2.2.2.1.1
theorem qEn_o {s : Sh} {e : Nat} {y : Int32} (h : ¬ (0 ≤ y.toInt ∧ y.toInt < (6 : Nat))) : qEn s e y = -nI 1 := by
  have n : ∀ j, j < 6 → ¬ y = nI j := fun j hj q => h (by rw [q, nI_toInt (by omega)]; omega)
  unfold qEn
  rw [if_neg (n 0 (by omega)), if_neg (n 1 (by omega)), if_neg (n 2 (by omega)), if_neg (n 3 (by omega)), if_neg (n 4 (by omega)), if_neg (n 5 (by omega))]
theorem dIn {n : Nat} {y : Int32} (hn : n < 1000) : decide ((nI 0).toInt ≤ y.toInt ∧ y.toInt ≤ (nI n).toInt) = vN (n + 1) y := by
  unfold vN
  rw [nI_toInt (by omega), nI_toInt (by omega)]
  congr 1
  exact propext ⟨fun h => by omega, fun h => by omega⟩
theorem m135 {X : smX} {h : smH} {M : Nat} {st : St} (r : RepM h M st) (x y : Int32) : ∃ h', sm_C PP X 135 [.ref M, .int x, .int y] h = some (some (.int (qEntry st x y)), h') ∧ RepM h' M st ∧ Fr h h' M (M + 16) := by
  obtain ⟨⟨q, a⟩, -, ⟨f, c1, c2⟩, -⟩ := id r
  have h6 := c2.2.2.2.1.1
  have nt : ¬ (true = false) := by decide
  unfold qEntry
  rw [c135, b135_0, vO a, m116 r]
  simp only [sm_gI_s, sm_gR_s, sm_gJ_s, sm_cR_s, sm_al_s, sm_sw_s, sm_tl1, sm_tl0, sm_ap0, sm_ap1, List.getElem?_cons_zero, List.getElem?_cons_succ, nk10, nk11, if_true, eq_self, b135_5, bI_0]
  rcases e_cs st.2.1.1.length x with ⟨e, he, h31, rfl⟩ | hv
  · rw [vN_t he h31, if_neg nt, if_pos rfl, nTN h31, m107, dIn (by omega)]
    simp only [sm_gI_s, sm_gR_s, sm_gJ_s, sm_cR_s, sm_al_s, sm_sw_s, sm_tl1, sm_tl0, sm_ap0, sm_ap1, List.getElem?_cons_zero, List.getElem?_cons_succ, nk10, nk11, if_true, eq_self, b135_14, bI_0]
    rcases e_cs 6 y with ⟨j, hj, hj31, rfl⟩ | hy
    · rw [vN_t hj hj31, if_neg nt]
      by_cases j2 : j < 2
      · obtain ⟨c3, c4⟩ := c2.2.2.2.2 e he
        obtain ⟨p1, p2⟩ := c3.part (s := st.2.1) (e := e) j2
        rw [if_neg (nI_ge j2 (by omega))]
        simp only [fO a, sm_gI_s, sm_gR_s, sm_gJ_s, sm_cR_s, sm_al_s, sm_sw_s, sm_tl1, sm_tl0, sm_ap0, sm_ap1, List.getElem?_cons_zero, List.getElem?_cons_succ, nk10, nk11, if_true, eq_self, m118 (show e < 100 by omega) j2, b135_33]
        rw [aO c1, ldO (show 3 + 36 * e + 32 * j < 219 by omega) (by omega), p1]
        refine ⟨h, ?_, r, Fr.rf⟩
        by_cases j0 : j = 0
        · subst j0
          rfl
        · obtain rfl : j = 1 := by omega
          unfold qEn
          rw [if_neg (by decide), if_pos rfl]
          rfl
      · rw [if_pos (nI_le (by omega) (by omega))]
        by_cases j3 : j = 2
        · subst j3
          rw [if_pos rfl, vO a, m121 r he]
          simp only [sm_gI_s, sm_gR_s, sm_gJ_s, sm_cR_s, sm_al_s, sm_sw_s, sm_tl1, sm_tl0, sm_ap0, sm_ap1, List.getElem?_cons_zero, List.getElem?_cons_succ, nk10, nk11, if_true, eq_self, b135_45]
          refine ⟨h, ?_, r, Fr.rf⟩
          unfold qEn
          rw [if_neg (by decide), if_neg (by decide), if_pos rfl]
        · rw [if_neg (fun q => j3 ((nI_eq (by omega) (by omega)).mp q))]
          by_cases j5 : j = 5
          · subst j5
            obtain ⟨h1, e1, r1, ⟨g1, g2, g3, y1, y2, y3, y4⟩, k1⟩ := m134 (X := X) r r.ag he
            obtain ⟨⟨q1, a1⟩, -⟩ := id r1
            rw [if_pos (nI_le (by omega) (by omega)), vO a, e1]
            simp only [sm_gI_s, sm_gR_s, sm_gJ_s, sm_cR_s, sm_al_s, sm_sw_s, sm_tl1, sm_tl0, sm_ap0, sm_ap1, List.getElem?_cons_zero, List.getElem?_cons_succ, nk10, nk11, if_true, eq_self, b135_65, fO a1]
            rw [aO y3, ldO (show e < 6 by omega) (by omega), (y4 e he uP_eq).1]
            refine ⟨h1, ?_, r1, k1⟩
            unfold qEn
            rw [if_neg (by decide), if_neg (by decide), if_neg (by decide), if_neg (by decide), if_neg (by decide), if_pos rfl]
          · rw [if_neg (nI_ge (show j < 5 by omega) (by omega)), vO a, pk_sub (show 3 ≤ j by omega), c133, b133_0]
            by_cases j4 : j = 3
            · subst j4
              obtain ⟨h1, e1, r1, k1⟩ := m133_w (X := X) he 1000 0 0 (by omega) h r
              refine ⟨h1, ?_, r1, k1.fr⟩
              rw [show (3 - 3 : Nat) = 0 from rfl, e1]
              simp only [sm_gI_s, sm_gR_s, sm_gJ_s, sm_cR_s, sm_al_s, sm_sw_s, sm_tl1, sm_tl0, sm_ap0, sm_ap1, List.getElem?_cons_zero, List.getElem?_cons_succ, nk10, nk11, if_true, eq_self, b135_59, Nat.zero_add]
              unfold qEn
              rw [if_neg (by decide), if_neg (by decide), if_neg (by decide), if_pos rfl]
              rfl
            · obtain rfl : j = 4 := by omega
              refine ⟨h, ?_, r, Fr.rf⟩
              rw [show (4 - 3 : Nat) = 1 from rfl, m133_f he r 1000 0 0 (by omega)]
              simp only [sm_gI_s, sm_gR_s, sm_gJ_s, sm_cR_s, sm_al_s, sm_sw_s, sm_tl1, sm_tl0, sm_ap0, sm_ap1, List.getElem?_cons_zero, List.getElem?_cons_succ, nk10, nk11, if_true, eq_self, b135_59, Nat.zero_add]
              unfold qEn
              rw [if_neg (by decide), if_neg (by decide), if_neg (by decide), if_neg (by decide), if_pos rfl]
              rfl
    · rw [vN_f hy, if_pos rfl, b135_17, qEn_o hy]
      exact ⟨h, rfl, r, Fr.rf⟩
  · rw [vN_f hv, if_pos rfl, b135_17, if_neg (show ¬ (false = true) by decide)]
    exact ⟨h, rfl, r, Fr.rf⟩
theorem vR_x {s : Sh} {x y : Int32} (h : vN s.1.length x = true) : vR s x y = vN 2 y := by
  have hx := of_decide_eq_true h
  unfold vR vN
  congr 1
  exact propext ⟨fun h => by omega, fun h => by omega⟩
theorem m137 {X : smX} {h : smH} {M : Nat} {st : St} (r : RepM h M st) (x n y : Int32) : ∃ h', sm_C PP X 137 [.ref M, .int x, .int n, .int y] h = some (some (.int (qDoubt st x n y)), h') ∧ RepM h' M st ∧ Fr h h' M (M + 16) := by
  obtain ⟨⟨q, a⟩, -, ⟨f, c1, c2⟩, -⟩ := id r
  have h6 := c2.2.2.2.1.1
  have nt : ¬ (true = false) := by decide
  have nt2 : ¬ (false = true) := by decide
  rw [c137, b137_0, vO a, m116 r]
  simp only [sm_gI_s, sm_gR_s, sm_gJ_s, sm_cR_s, sm_al_s, sm_sw_s, sm_tl1, sm_tl0, sm_ap0, sm_ap1, List.getElem?_cons_zero, List.getElem?_cons_succ, nk10, nk11, if_true, eq_self, b137_5, bI_0]
  cases ev : vN st.2.1.1.length x with
  | false =>
    have hz : vR st.2.1 x y = false := by
      cases hv : vR st.2.1 x y with
      | false => rfl
      | true =>
        have := of_decide_eq_true hv
        have e2 : vN st.2.1.1.length x = true := decide_eq_true ⟨this.1, this.2.1⟩
        rw [ev] at e2
        cases e2
    unfold qDoubt
    rw [if_pos rfl, b137_28, hz, if_neg nt2]
    exact ⟨h, rfl, r, Fr.rf⟩
  | true =>
    unfold qDoubt
    rw [if_neg nt, m107, dIn (by omega), vR_x ev]
    simp only [sm_gI_s, sm_gR_s, sm_gJ_s, sm_cR_s, sm_al_s, sm_sw_s, sm_tl1, sm_tl0, sm_ap0, sm_ap1, List.getElem?_cons_zero, List.getElem?_cons_succ, nk10, nk11, if_true, eq_self, b137_16, bI_0]
    cases en0 : vN (999 + 1) n with
    | false =>
      have en1 : vN 1000 n = false := en0
      rw [if_pos rfl, b137_28, if_neg nt2]
      refine ⟨h, ?_, r, Fr.rf⟩
      split <;> rfl
    | true =>
      have en1 : vN 1000 n = true := en0
      rw [if_neg nt, m107, dIn (by omega)]
      simp only [sm_gI_s, sm_gR_s, sm_gJ_s, sm_cR_s, sm_al_s, sm_sw_s, sm_tl1, sm_tl0, sm_ap0, sm_ap1, List.getElem?_cons_zero, List.getElem?_cons_succ, nk10, nk11, if_true, eq_self, b137_25, bI_0]
      cases ey : vN (1 + 1) y with
      | false =>
        have ey1 : vN 2 y = false := ey
        rw [if_pos rfl, b137_28, if_neg nt2]
        exact ⟨h, rfl, r, Fr.rf⟩
      | true =>
        have ey1 : vN 2 y = true := ey
        rw [if_neg nt, if_pos rfl]
        rcases e_cs st.2.1.1.length x with ⟨e, he, h31, rfl⟩ | hv
        · rcases e_cs 1000 n with ⟨m, hm, hm31, rfl⟩ | hv
          · rcases e_cs 2 y with ⟨j, hj, hj31, rfl⟩ | hv
            · rw [nTN h31, nTN hm31, nTN hj31, vO a]
              by_cases h0 : j = 0
              · subst h0
                obtain ⟨h1, e1, r1, k1⟩ := m130 (X := X) r he hm
                refine ⟨h1, ?_, r1, k1.fr⟩
                rw [if_pos (show (nI 0 : Int32) = 0 from rfl), if_pos rfl, e1]
                simp only [sm_gI_s, sm_gR_s, sm_gJ_s, sm_cR_s, sm_al_s, sm_sw_s, sm_tl1, sm_tl0, sm_ap0, sm_ap1, List.getElem?_cons_zero, List.getElem?_cons_succ, nk10, nk11, if_true, eq_self, b137_40, b137_49]
              · obtain rfl : j = 1 := by omega
                refine ⟨h, ?_, r, Fr.rf⟩
                rw [if_neg (show ¬ (nI 1 : Int32) = 0 by decide), if_neg h0, vO a, m132 r he hm]
                simp only [sm_gI_s, sm_gR_s, sm_gJ_s, sm_cR_s, sm_al_s, sm_sw_s, sm_tl1, sm_tl0, sm_ap0, sm_ap1, List.getElem?_cons_zero, List.getElem?_cons_succ, nk10, nk11, if_true, eq_self, b137_49]
            · rw [vN_f hv] at ey1; cases ey1
          · rw [vN_f hv] at en1; cases en1
        · rw [vN_f hv] at ev; cases ev
theorem m139 {X : smX} {h : smH} {M : Nat} {st : St} (r : RepM h M st) (n k : Int32) : ∃ h', sm_C PP X 139 [.ref M, .int n, .int k] h = some (some (.int (qWord n k)), h') ∧ RepM h' M st ∧ Fr h h' M (M + 16) := by
  obtain ⟨⟨q, a⟩, -, -, -, -, ⟨⟨g0, g1⟩, -⟩⟩ := id r
  have nt : ¬ (true = false) := by decide
  have hm1 : (-nI 1).toInt = -1 := by decide
  unfold qWord
  rw [c139, b139_0, m107, dIn (by omega)]
  simp only [sm_gI_s, sm_gR_s, sm_gJ_s, sm_cR_s, sm_al_s, sm_sw_s, sm_tl1, sm_tl0, sm_ap0, sm_ap1, List.getElem?_cons_zero, List.getElem?_cons_succ, nk10, nk11, if_true, eq_self, b139_8, bI_0]
  rcases e_cs 1000 n with ⟨m, hm, hm31, rfl⟩ | hn
  · have hL := spN_len hm
    rw [vN_t (n := 999 + 1) (by omega) hm31, if_neg nt, if_pos rfl, nTN hm31]
    obtain ⟨h1, e1, q1, k1⟩ := m129 (X := X) a g1 hm
    have r1 := r.sp k1 q1
    obtain ⟨b1, g, b2, b3⟩ := id q1
    rcases i_cases k with hk | ⟨j, hj, rfl⟩
    · by_cases h1' : k = -nI 1
      · subst h1'
        rw [if_pos (show (-nI 1 : Int32) ≤ -nI 1 by decide), if_pos rfl, vO a, e1]
        simp only [sm_gI_s, sm_gR_s, sm_gJ_s, sm_cR_s, sm_al_s, sm_sw_s, sm_tl1, sm_tl0, sm_ap0, sm_ap1, List.getElem?_cons_zero, List.getElem?_cons_succ, nk10, nk11, if_true, eq_self, b139_23, fO b1, b139_54]
        exact ⟨h1, rfl, r1, k1.fr⟩
      · have h2 : ¬ k.toInt = -1 := fun q => h1' (by rw [i_eq, hm1]; exact q)
        rw [if_neg (show ¬ (-nI 1 : Int32) ≤ k by rw [i_le, hm1]; omega), if_neg h1', if_neg (by omega), b139_16]
        exact ⟨h, rfl, r, Fr.rf⟩
    · have h2 : ¬ nI j = -nI 1 := by rw [i_eq, hm1, nI_toInt hj]; omega
      rw [if_pos (show (-nI 1 : Int32) ≤ nI j by rw [i_le, hm1, nI_toInt hj]; omega), if_neg h2, if_pos (show 0 ≤ (nI j).toInt by rw [nI_toInt hj]; omega), vO a, e1, nTN hj]
      simp only [sm_gI_s, sm_gR_s, sm_gJ_s, sm_cR_s, sm_al_s, sm_sw_s, sm_tl1, sm_tl0, sm_ap0, sm_ap1, List.getElem?_cons_zero, List.getElem?_cons_succ, nk10, nk11, if_true, eq_self, b139_23, fO b1, b139_54]
      rw [if_neg h2]
      refine ⟨h1, ?_, r1, k1.fr⟩
      by_cases h3 : j < (spN m).length
      · rw [if_neg (nI_ge h3 (by omega)), if_pos h3, aO b2, ldO (show j < 40 by omega) (by omega), b3 j h3]
      · rw [if_pos (nI_le (by omega) hj), if_neg h3]
  · have hn2 : vN (999 + 1) n = false := vN_f hn
    rw [hn2, if_pos rfl, b139_16, if_neg (show ¬ (false = true) by decide)]
    exact ⟨h, rfl, r, Fr.rf⟩
