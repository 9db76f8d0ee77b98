/-! tells of the reference -/
theorem m115_q {X : smX} {h : smH} {M d l q x : Nat} {tx : List Nat} {f : Nat → Int32} (a : MObj h M d l q) (b1 : IA h (M + 5) 40 f) (b2 : tx.length ≤ 40) (b3 : ∀ k, nA tx k < 256) (b4 : ∀ k, k < tx.length → f k = nI (nA tx k)) {p : Nat} (hp : p < tx.length) (h61 : nA tx p = 61) (hn : ∀ j, j < p → nA tx j ≠ 61) : ∀ (r k : Nat), k + r = p → sm_E PP X 115 48 [(0, .ref M), (2, .int (nI x)), (3, .int (nI k))] [] h = sm_E PP X 115 48 [(0, .ref M), (2, .int (nI x)), (3, .int (nI p))] [] h := by
  intro r
  induction r with
  | zero => intro k hk; rw [show k = p by omega]
  | succ r ih =>
    intro k hk
    have hA := b3 k
    rw [← ih (k + 1) (by omega), b115_48]
    simp only [fO a, sm_gI_s, sm_gR_s, sm_gJ_s, sm_cR_s, sm_al_s, sm_sw_s, sm_tl1, sm_tl0, sm_ap0, sm_ap1, List.getElem?_cons_zero, List.getElem?_cons_succ, nk10, nk11, if_true, eq_self]
    rw [aO b1, ldO (by omega) (by omega), b4 k (by omega), if_neg (fun e => hn k (by omega) ((nI_eq (by omega) (by omega)).mp e)), nI_add]
theorem enc_new {f tf : Nat → Int32} {p : Nat} {tx : List Nat} {s : Sh} (x : Enc f 0 s) (hn : s.1.length < 6) (t3 : ∀ k, nA tx k < 256) (t4 : ∀ k, k < tx.length → tf k = nI (nA tx k)) (hE : eqp tx tx.length 0 = p) (h31 : p ≤ 31) (hl : tx.length - (p + 1) ≤ 3) (hp : p < tx.length) (hd : ∀ j, p < j → j < tx.length → nA tx j = 63 ∨ (48 ≤ nA tx j ∧ nA tx j ≤ 57)) : Enc (upd (mv tf (p + 1) (upd (mv tf 0 (upd f (3 + 36 * s.1.length) (nI p)) (3 + 36 * s.1.length + 1) p) (3 + 36 * s.1.length + 32) (nI (tx.length - p - 1))) (3 + 36 * s.1.length + 33) (tx.length - p - 1)) 0 (nI (s.1.length + 1))) 0 (s.1 ++ [enT tx], s.2) := by
  obtain ⟨x1, x2, x3, x4, x5⟩ := x
  have hlen : (s.1 ++ [enT tx]).length = s.1.length + 1 := List.length_append
  have low : ∀ y, 0 < y → y < 3 + 36 * s.1.length → (upd (mv tf (p + 1) (upd (mv tf 0 (upd f (3 + 36 * s.1.length) (nI p)) (3 + 36 * s.1.length + 1) p) (3 + 36 * s.1.length + 32) (nI (tx.length - p - 1))) (3 + 36 * s.1.length + 33) (tx.length - p - 1)) 0 (nI (s.1.length + 1))) y = f y := fun y h1 h2 => by
    rw [pk_un (by omega), mv_out (by omega), pk_un (by omega), mv_out (by omega), pk_un (by omega)]
  refine ⟨by rw [pk_us, hlen], (low 1 (by omega) (by omega)).trans x2, (low 2 (by omega) (by omega)).trans x3, ⟨by rw [hlen]; omega, x4.2⟩, fun i hi => ?_⟩
  rw [hlen] at hi
  have hen : en (s.1 ++ [enT tx], s.2) i = if i < s.1.length then en s i else if i = s.1.length then enT tx else ([], []) := en_app (a := s.2.1) (b := s.2.2)
  rw [hen]
  by_cases h0 : i < s.1.length
  · rw [if_pos h0]
    exact ⟨(x5 i h0).1.cp (x5 i h0).2 (fun k hk => low _ (by omega) (by omega)), (x5 i h0).2⟩
  · have hi2 : i = s.1.length := by omega
    rw [if_neg h0, if_pos hi2, hi2]
    unfold enT
    rw [hE, Nat.sub_zero]
    have l1 : ((tx.drop 0).take p).length = p := by rw [List.length_take, List.length_drop]; omega
    have l2 : ((tx.drop (p + 1)).take (tx.length - (p + 1))).length = tx.length - (p + 1) := by rw [List.length_take, List.length_drop]; omega
    have n1 : ∀ k, k < p → nA ((tx.drop 0).take p) k = nA tx k := fun k hk => by rw [nA_take hk, Nat.zero_add]
    have n2 : ∀ k, k < tx.length - (p + 1) → nA ((tx.drop (p + 1)).take (tx.length - (p + 1))) k = nA tx (p + 1 + k) := fun k hk => nA_take hk
    refine ⟨⟨?_, fun k hk => ?_, ?_, fun k hk => ?_⟩, by rw [l1]; exact h31, by rw [l2]; exact hl, fun k => ?_, fun k => ?_, fun k hk => ?_⟩
    · rw [l1, Nat.zero_add, pk_un (by omega), mv_out (by omega), pk_un (by omega), mv_out (by omega), pk_us]
    · have hk2 : k < p := by rw [← l1]; exact hk
      show _ = nI (nA ((tx.drop 0).take p) k)
      rw [n1 k hk2, Nat.zero_add, pk_un (by omega), mv_out (by omega), pk_un (by omega), mv_in hk2, Nat.zero_add, t4 k (by omega)]
    · show _ = nI ((tx.drop (p + 1)).take (tx.length - (p + 1))).length
      rw [l2, Nat.zero_add, pk_un (by omega), mv_out (by omega), pk_us, Nat.sub_sub]
    · have hk2 : k < tx.length - (p + 1) := by rw [← l2]; exact hk
      show _ = nI (nA ((tx.drop (p + 1)).take (tx.length - (p + 1))) k)
      rw [n2 k hk2, Nat.zero_add, pk_un (by omega), mv_in (by omega), t4 _ (by omega)]
    · show nA ((tx.drop 0).take p) k < 256
      by_cases h1 : k < p
      · rw [n1 k h1]; exact t3 k
      · rw [nA_out (by omega)]; omega
    · show nA ((tx.drop (p + 1)).take (tx.length - (p + 1))) k < 256
      by_cases h1 : k < tx.length - (p + 1)
      · rw [n2 k h1]; exact t3 _
      · rw [nA_out (by omega)]; omega
    · have hk2 : k < tx.length - (p + 1) := by rw [← l2]; exact hk
      show nA ((tx.drop (p + 1)).take (tx.length - (p + 1))) k = 63 ∨ _ ∧ nA ((tx.drop (p + 1)).take (tx.length - (p + 1))) k ≤ 57
      rw [n2 k hk2]
      exact hd _ (by omega) (by omega)
theorem m115 {X : smX} {h : smH} {M : Nat} {st : St} (r : RepM h M st) : ∃ h', sm_C PP X 115 [.ref M] h = some (some (.int (opTells st).1), h') ∧ RepM h' M (opTells st).2 ∧ Fr h h' M (M + 16) := by
  obtain ⟨⟨q, a⟩, ⟨tf, t1, t2, t3, t4⟩, ⟨f, c1, c2⟩, -⟩ := id r
  have h6 := c2.2.2.2.1.1
  unfold opTells
  rw [c115, b115_0]
  simp only [fO a, sm_gI_s, sm_gR_s, sm_gJ_s, sm_cR_s, sm_al_s, sm_sw_s, sm_tl1, sm_tl0, sm_ap0, sm_ap1, List.getElem?_cons_zero, List.getElem?_cons_succ, nk10, nk11, if_true, eq_self]
  rw [aO c1, ldO (show 0 < 219 by omega) (by omega), c2.1]
  by_cases h1 : st.2.1.1.length < 6
  · rw [if_neg (fun e => by have := (nI_eq (by omega) (by omega)).mp e; omega), if_pos h1, vO a, m112 r]
    simp only [sm_gI_s, sm_gR_s, sm_gJ_s, sm_cR_s, sm_al_s, sm_sw_s, sm_tl1, sm_tl0, sm_ap0, sm_ap1, List.getElem?_cons_zero, List.getElem?_cons_succ, nk10, nk11, if_true, eq_self, b115_18]
    cases eF : flt st.1 st.1.length 0 none with
    | some k =>
      have := flt_le _ _ _ _ (by omega) eF
      rw [if_neg (show ¬ oI (some k) = -nI 9 from neg9_ne (by omega))]
      exact ⟨h, rfl, r, Fr.rf⟩
    | none =>
      obtain ⟨p, q1, q2, q3, q4, q5, q6, q7, q8⟩ := flt_ok eF
      rw [if_pos (show oI none = -nI 9 from rfl), vO a]
      obtain ⟨h2, e2, r2, i2, k2⟩ := m114 (X := X) r
      obtain ⟨⟨qq, a2⟩, ⟨uf, u1, u2, u3, u4⟩, -⟩ := id r2
      have c3 := i2 f c1
      dsimp only at u2 u3 u4
      have fin := enc_new c2 h1 u3 u4 q1 q2 q6 (by omega) q8
      -- the writes
      have k3 : Fr h2 (sm_w h2 (M + 1) (.inl (.int, 219, .inl (upd f (3 + 36 * st.2.1.1.length) (nI p))))) (M + 1) (M + 2) := Fr.w
      have a3 := a2.fr k3 (by omega)
      obtain ⟨h4, e4, g4, k4⟩ := m113 (X := X) (i := 0) (j := 3 + 36 * st.2.1.1.length + 1) (n := p) (show 0 + p ≤ 40 by omega) (show 3 + 36 * st.2.1.1.length + 1 + p ≤ 219 by omega) (by omega) (by omega) (show M + 5 ≠ M + 1 by omega) (u1.fr k3 (by omega)) (w_eq : IA (sm_w h2 (M + 1) _) (M + 1) 219 (upd f (3 + 36 * st.2.1.1.length) (nI p)))
      have a4 := a3.fr k4 (by omega)
      have k5 : Fr h4 (sm_w h4 (M + 1) (.inl (.int, 219, .inl (upd (mv uf 0 (upd f (3 + 36 * st.2.1.1.length) (nI p)) (3 + 36 * st.2.1.1.length + 1) p) (3 + 36 * st.2.1.1.length + 32) (nI (st.1.length - p - 1)))))) (M + 1) (M + 2) := Fr.w
      have a5 := a4.fr k5 (by omega)
      obtain ⟨h6', e6, g6, k6⟩ := m113 (X := X) (i := p + 1) (j := 3 + 36 * st.2.1.1.length + 33) (n := st.1.length - p - 1) (show p + 1 + (st.1.length - p - 1) ≤ 40 by omega) (show 3 + 36 * st.2.1.1.length + 33 + (st.1.length - p - 1) ≤ 219 by omega) (by omega) (by omega) (show M + 5 ≠ M + 1 by omega) (((u1.fr k3 (by omega)).fr k4 (by omega)).fr k5 (by omega)) (w_eq : IA (sm_w h4 (M + 1) _) (M + 1) 219 _)
      have a6 := a5.fr k6 (by omega)
      have k7 : Fr h6' (sm_w h6' (M + 1) (.inl (.int, 219, .inl (upd (mv uf (p + 1) (upd (mv uf 0 (upd f (3 + 36 * st.2.1.1.length) (nI p)) (3 + 36 * st.2.1.1.length + 1) p) (3 + 36 * st.2.1.1.length + 32) (nI (st.1.length - p - 1))) (3 + 36 * st.2.1.1.length + 33) (st.1.length - p - 1)) 0 (nI (st.2.1.1.length + 1)))))) (M + 1) (M + 2) := Fr.w
      have a7 := a6.fr k7 (by omega)
      have K : Fr h2 _ (M + 1) (M + 2) := (((k3.s k4).s k5).s k6).s k7
      have r7 := r2.now K ⟨_, w_eq, fin⟩
      generalize hg : (sm_w h6' (M + 1) (.inl (.int, 219, .inl (upd (mv uf (p + 1) (upd (mv uf 0 (upd f (3 + 36 * st.2.1.1.length) (nI p)) (3 + 36 * st.2.1.1.length + 1) p) (3 + 36 * st.2.1.1.length + 32) (nI (st.1.length - p - 1))) (3 + 36 * st.2.1.1.length + 33) (st.1.length - p - 1)) 0 (nI (st.2.1.1.length + 1)))))) = h7 at r7 K k7 a7
      obtain ⟨-, z2, ⟨z3f, z3a, z3⟩, z4, z5, z6⟩ := r7
      have k8 : Fr h7 (sm_w h7 M (.inr (8, mo M ((st.2.1 :: st.2.2.1).take 8).length 0 qq))) M (M + 1) := Fr.w
      have a8 : MObj (sm_w h7 M (.inr (8, mo M ((st.2.1 :: st.2.2.1).take 8).length 0 qq))) M ((st.2.1 :: st.2.2.1).take 8).length 0 qq := w_eq
      have z3b := z3a.fr k8 (by omega)
      have z30 : z3f 0 = nI (st.2.1.1.length + 1) := by
        rw [z3.1]
        show nI (st.2.1.1 ++ [enT st.1]).length = _
        rw [List.length_append]
        rfl
      obtain ⟨w1, w2, w3, w4, w5⟩ := z2
      refine ⟨sm_w h7 M (.inr (8, mo M ((st.2.1 :: st.2.2.1).take 8).length 0 qq)), ?_, ⟨⟨qq, a8⟩, ⟨w1, w2.fr k8 (by omega), Nat.zero_le _, fun k => by show 0 < 256; omega, fun k hk => absurd hk (Nat.not_lt_zero k)⟩, ⟨z3f, z3b, z3⟩, z4.fr k8 (by omega), z5.fr k8 (by omega), z6.fr k8 (by omega)⟩, k2.s ((K.mono (by omega) (by omega)).s (k8.mono (by omega) (by omega)))⟩
      rw [e2]
      simp only [sm_gI_s, sm_gR_s, sm_gJ_s, sm_cR_s, sm_al_s, sm_sw_s, sm_tl1, sm_tl0, sm_ap0, sm_ap1, List.getElem?_cons_zero, List.getElem?_cons_succ, nk10, nk11, if_true, eq_self, b115_34, fO a2]
      rw [aO c3, ldO (show 0 < 219 by omega) (by omega), c2.1, pk_mul, nI_add, m115_q a2 u1 u2 u3 u4 (p := p) (show p < st.1.length by omega) q4 q5 p 0 (by omega), b115_48]
      simp only [fO a2, sm_gI_s, sm_gR_s, sm_gJ_s, sm_cR_s, sm_al_s, sm_sw_s, sm_tl1, sm_tl0, sm_ap0, sm_ap1, List.getElem?_cons_zero, List.getElem?_cons_succ, nk10, nk11, if_true, eq_self]
      rw [aO u1, ldO (show p < 40 by omega) (by omega), u4 p (by show p < st.1.length; omega), if_pos (by rw [q4]), stO c3 (show 3 + 36 * st.2.1.1.length < 219 by omega) (by omega)]
      simp only [fO a3, sm_gI_s, sm_gR_s, sm_gJ_s, sm_cR_s, sm_al_s, sm_sw_s, sm_tl1, sm_tl0, sm_ap0, sm_ap1, List.getElem?_cons_zero, List.getElem?_cons_succ, nk10, nk11, if_true, eq_self, nI_add, e4, b115_88, fO a4]
      rw [pk_sub (by omega), pk_sub (by omega), stO g4 (by omega) (by omega)]
      simp only [fO a5, sm_gI_s, sm_gR_s, sm_gJ_s, sm_cR_s, sm_al_s, sm_sw_s, sm_tl1, sm_tl0, sm_ap0, sm_ap1, List.getElem?_cons_zero, List.getElem?_cons_succ, nk10, nk11, if_true, eq_self]
      rw [pk_sub (by omega), pk_sub (by omega), show 3 + 36 * st.2.1.1.length + 32 + 1 = 3 + 36 * st.2.1.1.length + 33 by omega, e6]
      simp only [sm_gI_s, sm_gR_s, sm_gJ_s, sm_cR_s, sm_al_s, sm_sw_s, sm_tl1, sm_tl0, sm_ap0, sm_ap1, List.getElem?_cons_zero, List.getElem?_cons_succ, nk10, nk11, if_true, eq_self, b115_133, fO a6]
      rw [aO g6, ldO (show 0 < 219 by omega) (by omega)]
      rw [show mv uf (p + 1) (upd (mv uf 0 (upd f (3 + 36 * st.2.1.1.length) (nI p)) (3 + 36 * st.2.1.1.length + 1) p) (3 + 36 * st.2.1.1.length + 32) (nI (st.1.length - p - 1))) (3 + 36 * st.2.1.1.length + 33) (st.1.length - p - 1) 0 = nI st.2.1.1.length by rw [mv_out (by omega), pk_un (by omega), mv_out (by omega), pk_un (by omega)]; exact c2.1, nI_add, stO g6 (show 0 < 219 by omega) (by omega), hg, pO a7 (by show 6 < 18; omega)]
      show sm_gR (sm_f (sm_w h7 M (.inr (8, mo M ((st.2.1 :: st.2.2.1).take 8).length 0 qq))) M 8 0) _ = _
      rw [fO a8]
      simp only [sm_gI_s, sm_gR_s, sm_gJ_s, sm_cR_s, sm_al_s, sm_sw_s, sm_tl1, sm_tl0, sm_ap0, sm_ap1, List.getElem?_cons_zero, List.getElem?_cons_succ, nk10, nk11, if_true, eq_self, mo]
      show sm_ld (sm_ar PP X (sm_w h7 M (.inr (8, mo M ((st.2.1 :: st.2.2.1).take 8).length 0 qq))) (.ref (M + 1))) .int (nI 0) _ = _
      rw [aO z3b, ldO (show 0 < 219 by omega) (by omega), z30, pk_sub (by omega), Nat.add_sub_cancel]
      rfl
  · rw [if_pos (by rw [show st.2.1.1.length = 6 by omega]), if_neg h1]
    exact ⟨h, rfl, r, Fr.rf⟩
