/-! count of the reference -/
def altC (c : Nat → Int32) : Nat → Nat → Int32 → Int32
  | 0, _, a => a
  | r + 1, i, a => altC c r (i + 1) (a + (if c i = 0 then nI 1 else nI 0))
theorem altC_ok {s : Sh} {c : Nat → Int32} (hc : ∀ e, e < s.1.length → c e = nI (agE s e).1.length) : ∀ d e a : Nat, e + d = s.1.length → altC c d e (nI a) = nI (alt s d e a) := by
  intro d
  induction d with
  | zero => intro e a _; rfl
  | succ d ih =>
    intro e a he
    have hl := ag_le (s := s) (e := e)
    unfold altC alt
    rw [hc e (by omega)]
    by_cases h0 : (agE s e).1.length = 0
    · rw [if_pos (show nI (agE s e).1.length = 0 by rw [h0]; rfl), if_pos h0, nI_add]
      exact ih (e + 1) (a + 1) (by omega)
    · rw [if_neg (nI_ne0 (by omega) (by omega)), if_neg h0, nI_add]
      exact ih (e + 1) (a + 0) (by omega)
theorem m155_loop {X : smX} {h : smH} {M : Nat} {y : Int32} {st : St} {c : Nat → Int32} (r : RepM h M st) (i9 : IA h (M + 9) 6 c) : ∀ (d e w : Nat) (A : Int32), e + d = st.2.1.1.length → sm_E PP X 155 21 [(0, .ref M), (1, .int y), (2, .int A), (3, .int (nI w)), (4, .int (nI e))] [] h = sm_E PP X 155 66 [(0, .ref M), (1, .int y), (2, .int (altC c d e A)), (3, .int (nI (wornA st.2.1 d e w))), (4, .int (nI st.2.1.1.length))] [.int y] h := by
  intro d
  obtain ⟨⟨q0, a⟩, -, rn, -⟩ := id r
  have h6 := r.h6
  induction d with
  | zero =>
    intro e w A he
    rw [b155_21]
    simp only [fO a, sm_gI_s, sm_gR_s, sm_gJ_s, sm_cR_s, sm_al_s, sm_sw_s, sm_tl1, sm_tl0, sm_ap0, sm_ap1, List.getElem?_cons_zero, List.getElem?_cons_succ, nk10, nk11, if_true, eq_self, rn.l0]
    rw [if_pos (nI_le (by omega) (by omega))]
    unfold altC wornA
    rw [show e = st.2.1.1.length by omega]
  | succ d ih =>
    intro e w A he
    have he2 : e < st.2.1.1.length := by omega
    rw [b155_21]
    simp only [fO a, sm_gI_s, sm_gR_s, sm_gJ_s, sm_cR_s, sm_al_s, sm_sw_s, sm_tl1, sm_tl0, sm_ap0, sm_ap1, List.getElem?_cons_zero, List.getElem?_cons_succ, nk10, nk11, if_true, eq_self, rn.l0]
    rw [if_neg (nI_ge he2 (by omega)), aO i9, ldO (by omega) (by omega)]
    unfold altC wornA
    have go : ∀ v : Int32, sm_E PP X 155 48 [(0, .ref M), (1, .int y), (3, .int (nI w)), (4, .int (nI e))] [.int v, .int A] h = sm_E PP X 155 66 [(0, .ref M), (1, .int y), (2, .int (altC c d (e + 1) (A + v))), (3, .int (nI (wornA st.2.1 d (e + 1) (w + wornE (en st.2.1 e))))), (4, .int (nI st.2.1.1.length))] [.int y] h := fun v => by
      rw [b155_48, vO a, m121 r he2]
      simp only [sm_gI_s, sm_gR_s, sm_gJ_s, sm_cR_s, sm_al_s, sm_sw_s, sm_tl1, sm_tl0, sm_ap0, sm_ap1, List.getElem?_cons_zero, List.getElem?_cons_succ, nk10, nk11, if_true, eq_self, b155_57, nI_add]
      exact ih (e + 1) _ _ (by omega)
    by_cases h0 : c e = 0
    · rw [if_pos h0, if_pos h0]; exact go _
    · rw [if_neg h0, if_neg h0]; exact go _
theorem RepM.c9 {h : smH} {M : Nat} {st : St} (r : RepM h M st) : ∃ c, IA h (M + 9) 6 c := by
  obtain ⟨-, -, -, -, -, -, -, -, a3, -⟩ := r
  exact a3
theorem m155 {X : smX} {h : smH} {M : Nat} {st : St} (r : RepM h M st) (y : Int32) : ∃ h', sm_C PP X 155 [.ref M, .int y] h = some (some (.int (qCount st y)), h') ∧ RepM h' M st ∧ Fr h h' M (M + 16) := by
  obtain ⟨⟨q0, a⟩, -⟩ := id r
  have h6 := r.h6
  rw [c155, b155_0]
  have plain : ¬ y = nI 1 → ¬ y = nI 4 → ∃ A : Int32, sm_E PP X 155 18 [(0, .ref M), (1, .int y), (2, .int (nI 0)), (3, .int (nI 0))] [] h = sm_E PP X 155 66 [(0, .ref M), (1, .int y), (2, .int A), (3, .int (nI (wornA st.2.1 st.2.1.1.length 0 0))), (4, .int (nI st.2.1.1.length))] [.int y] h := fun _ _ => by
    obtain ⟨c, i9⟩ := r.c9
    exact ⟨_, by rw [b155_18, m155_loop r i9 st.2.1.1.length 0 0 (nI 0) (by omega)]⟩
  have full : ∃ h', sm_E PP X 155 14 [(0, .ref M), (1, .int y), (2, .int (nI 0)), (3, .int (nI 0))] [] h = sm_E PP X 155 66 [(0, .ref M), (1, .int y), (2, .int (nI (alt st.2.1 st.2.1.1.length 0 0))), (3, .int (nI (wornA st.2.1 st.2.1.1.length 0 0))), (4, .int (nI st.2.1.1.length))] [.int y] h' ∧ RepM h' M st ∧ Fr h h' M (M + 16) := by
    obtain ⟨h1, e1, r1, ag1, k1⟩ := m140 (X := X) r
    obtain ⟨f, g, c, fn⟩ := ag1.fn
    refine ⟨h1, ?_, r1, k1⟩
    rw [b155_14, vO a, e1]
    simp only [sm_gI_s, sm_gR_s, sm_gJ_s, sm_cR_s, sm_al_s, sm_sw_s, sm_tl1, sm_tl0, sm_ap0, sm_ap1, List.getElem?_cons_zero, List.getElem?_cons_succ, nk10, nk11, if_true, eq_self, b155_18]
    rw [m155_loop r1 fn.2.2.1 st.2.1.1.length 0 0 (nI 0) (by omega), altC_ok (fun e he => (fn.2.2.2 e he).1) _ _ _ (by omega)]
  unfold qCount
  by_cases h1 : y = nI 1
  · subst h1
    obtain ⟨h', e1, r1, k1⟩ := full
    refine ⟨h', ?_, r1, k1⟩
    rw [if_pos rfl, e1, b155_66, if_neg (by decide), if_neg (by decide), if_pos rfl]
    show sm_E PP X 155 115 [(2, .int _)] [] h' = _
    rw [b155_115]
  · by_cases h4 : y = nI 4
    · subst h4
      obtain ⟨h', e1, r1, k1⟩ := full
      refine ⟨h', ?_, r1, k1⟩
      rw [if_neg h1, if_pos rfl, e1, b155_66, if_neg (by decide), if_neg (by decide), if_neg (by decide), if_neg (by decide), if_neg (by decide), if_pos rfl]
      show sm_E PP X 155 131 [(3, .int _)] [] h' = _
      rw [b155_131]
    · obtain ⟨A, e1⟩ := plain h1 h4
      obtain ⟨-, -, rn, -⟩ := id r
      rw [if_neg h1, if_neg h4, e1, b155_66]
      refine ⟨h, ?_, r, Fr.rf⟩
      by_cases h0 : y = nI 0
      · subst h0
        rw [if_neg (by decide), if_pos rfl]
        show sm_E PP X 155 108 [(0, .ref M)] [] h = _
        rw [b155_108]
        simp only [fO a, sm_gI_s, sm_gR_s, sm_gJ_s, sm_cR_s, sm_al_s, sm_sw_s, sm_tl1, sm_tl0, sm_ap0, sm_ap1, List.getElem?_cons_zero, List.getElem?_cons_succ, nk10, nk11, if_true, eq_self, rn.l0]
      · rw [if_neg h0, if_neg h1]
        by_cases h2 : y = nI 2
        · subst h2
          rw [if_neg (by decide), if_pos rfl]
          show sm_E PP X 155 117 [(0, .ref M)] [] h = _
          rw [b155_117]
          simp only [fO a, sm_gI_s, sm_gR_s, sm_gJ_s, sm_cR_s, sm_al_s, sm_sw_s, sm_tl1, sm_tl0, sm_ap0, sm_ap1, List.getElem?_cons_zero, List.getElem?_cons_succ, nk10, nk11, if_true, eq_self, rn.l1]
        · rw [if_neg h2]
          by_cases h3 : y = nI 3
          · subst h3
            rw [if_neg (by decide), if_pos rfl]
            show sm_E PP X 155 124 [(0, .ref M)] [] h = _
            rw [b155_124]
            simp only [fO a, sm_gI_s, sm_gR_s, sm_gJ_s, sm_cR_s, sm_al_s, sm_sw_s, sm_tl1, sm_tl0, sm_ap0, sm_ap1, List.getElem?_cons_zero, List.getElem?_cons_succ, nk10, nk11, if_true, eq_self, rn.l2]
          · rw [if_neg h3, if_neg h4]
            by_cases h5 : y = nI 5
            · subst h5
              rw [if_neg (by decide), if_pos rfl]
              show sm_E PP X 155 133 [(0, .ref M)] [] h = _
              rw [b155_133]
              simp only [fO a, sm_gI_s, sm_gR_s, sm_gJ_s, sm_cR_s, sm_al_s, sm_sw_s, sm_tl1, sm_tl0, sm_ap0, sm_ap1, List.getElem?_cons_zero, List.getElem?_cons_succ, nk10, nk11, if_true, eq_self]
            · rw [if_neg h5]
              by_cases h6' : y = nI 6
              · subst h6'
                rw [if_neg (by decide), if_pos rfl]
                show sm_E PP X 155 138 [(0, .ref M)] [] h = _
                rw [b155_138]
                simp only [fO a, sm_gI_s, sm_gR_s, sm_gJ_s, sm_cR_s, sm_al_s, sm_sw_s, sm_tl1, sm_tl0, sm_ap0, sm_ap1, List.getElem?_cons_zero, List.getElem?_cons_succ, nk10, nk11, if_true, eq_self]
              · rw [if_neg h6', if_pos (by
                  simp only [i_eq, nI_toInt (show 0 < 2 ^ 31 by omega), nI_toInt (show 1 < 2 ^ 31 by omega), nI_toInt (show 2 < 2 ^ 31 by omega), nI_toInt (show 3 < 2 ^ 31 by omega), nI_toInt (show 4 < 2 ^ 31 by omega), nI_toInt (show 5 < 2 ^ 31 by omega), nI_toInt (show 6 < 2 ^ 31 by omega)] at h0 h1 h2 h3 h4 h5 h6'
                  omega), b155_143]
