/-! the law -/
theorem lw_sw {X : smX} {h : smH} {B i : Nat} {st : St} (rc : RepC h B st) (rm : RepM h (B + 338) st) (hi : i + 5 ≤ X.1) (hX : X.1 ≤ 2560) : ∀ j, j < 20 → ∃ h' st', sm_E PP X 156 32 [(0, .retAddr 40), (1, .ref B), (2, .ref (B + 338)), (3, .int (nI i))] [.int (nI j)] h = sm_E PP X 156 688 [(0, .retAddr 40), (1, .ref B), (2, .ref (B + 338)), (3, .int (nI i))] [] h' ∧ RepC h' B st' ∧ RepM h' (B + 338) st' ∧ h'.2 = h.2
  | 0, _ => by
    rw [b156_32, if_neg (by decide)]
    show ∃ h' st', sm_E PP X 156 128 [(0, .retAddr 40), (1, .ref B), (2, .ref (B + 338)), (3, .int (nI i))] [] h = _ ∧ _
    exact lw_0 rc rm hi hX
  | 1, _ => by
    rw [b156_32, if_neg (by decide)]
    show ∃ h' st', sm_E PP X 156 151 [(0, .retAddr 40), (1, .ref B), (2, .ref (B + 338)), (3, .int (nI i))] [] h = _ ∧ _
    exact lw_1 rc rm hi hX
  | 2, _ => by
    rw [b156_32, if_neg (by decide)]
    show ∃ h' st', sm_E PP X 156 164 [(0, .retAddr 40), (1, .ref B), (2, .ref (B + 338)), (3, .int (nI i))] [] h = _ ∧ _
    exact lw_2 rc rm hi hX
  | 3, _ => by
    rw [b156_32, if_neg (by decide)]
    show ∃ h' st', sm_E PP X 156 177 [(0, .retAddr 40), (1, .ref B), (2, .ref (B + 338)), (3, .int (nI i))] [] h = _ ∧ _
    exact lw_3 rc rm hi hX
  | 4, _ => by
    rw [b156_32, if_neg (by decide)]
    show ∃ h' st', sm_E PP X 156 200 [(0, .retAddr 40), (1, .ref B), (2, .ref (B + 338)), (3, .int (nI i))] [] h = _ ∧ _
    exact lw_4 rc rm hi hX
  | 5, _ => by
    rw [b156_32, if_neg (by decide)]
    show ∃ h' st', sm_E PP X 156 243 [(0, .retAddr 40), (1, .ref B), (2, .ref (B + 338)), (3, .int (nI i))] [] h = _ ∧ _
    exact lw_5 rc rm hi hX
  | 6, _ => by
    rw [b156_32, if_neg (by decide)]
    show ∃ h' st', sm_E PP X 156 296 [(0, .retAddr 40), (1, .ref B), (2, .ref (B + 338)), (3, .int (nI i))] [] h = _ ∧ _
    exact lw_6 rc rm hi hX
  | 7, _ => by
    rw [b156_32, if_neg (by decide)]
    show ∃ h' st', sm_E PP X 156 319 [(0, .retAddr 40), (1, .ref B), (2, .ref (B + 338)), (3, .int (nI i))] [] h = _ ∧ _
    exact lw_7 rc rm hi hX
  | 8, _ => by
    rw [b156_32, if_neg (by decide)]
    show ∃ h' st', sm_E PP X 156 342 [(0, .retAddr 40), (1, .ref B), (2, .ref (B + 338)), (3, .int (nI i))] [] h = _ ∧ _
    exact lw_8 rc rm hi hX
  | 9, _ => by
    rw [b156_32, if_neg (by decide)]
    show ∃ h' st', sm_E PP X 156 355 [(0, .retAddr 40), (1, .ref B), (2, .ref (B + 338)), (3, .int (nI i))] [] h = _ ∧ _
    exact lw_9 rc rm hi hX
  | 10, _ => by
    rw [b156_32, if_neg (by decide)]
    show ∃ h' st', sm_E PP X 156 388 [(0, .retAddr 40), (1, .ref B), (2, .ref (B + 338)), (3, .int (nI i))] [] h = _ ∧ _
    exact lw_10 rc rm hi hX
  | 11, _ => by
    rw [b156_32, if_neg (by decide)]
    show ∃ h' st', sm_E PP X 156 431 [(0, .retAddr 40), (1, .ref B), (2, .ref (B + 338)), (3, .int (nI i))] [] h = _ ∧ _
    exact lw_11 rc rm hi hX
  | 12, _ => by
    rw [b156_32, if_neg (by decide)]
    show ∃ h' st', sm_E PP X 156 474 [(0, .retAddr 40), (1, .ref B), (2, .ref (B + 338)), (3, .int (nI i))] [] h = _ ∧ _
    exact lw_12 rc rm hi hX
  | 13, _ => by
    rw [b156_32, if_neg (by decide)]
    show ∃ h' st', sm_E PP X 156 517 [(0, .retAddr 40), (1, .ref B), (2, .ref (B + 338)), (3, .int (nI i))] [] h = _ ∧ _
    exact lw_13 rc rm hi hX
  | 14, _ => by
    rw [b156_32, if_neg (by decide)]
    show ∃ h' st', sm_E PP X 156 550 [(0, .retAddr 40), (1, .ref B), (2, .ref (B + 338)), (3, .int (nI i))] [] h = _ ∧ _
    exact lw_14 rc rm hi hX
  | 15, _ => by
    rw [b156_32, if_neg (by decide)]
    show ∃ h' st', sm_E PP X 156 573 [(0, .retAddr 40), (1, .ref B), (2, .ref (B + 338)), (3, .int (nI i))] [] h = _ ∧ _
    exact lw_15 rc rm hi hX
  | 16, _ => by
    rw [b156_32, if_neg (by decide)]
    show ∃ h' st', sm_E PP X 156 596 [(0, .retAddr 40), (1, .ref B), (2, .ref (B + 338)), (3, .int (nI i))] [] h = _ ∧ _
    exact lw_16 rc rm hi hX
  | 17, _ => by
    rw [b156_32, if_neg (by decide)]
    show ∃ h' st', sm_E PP X 156 619 [(0, .retAddr 40), (1, .ref B), (2, .ref (B + 338)), (3, .int (nI i))] [] h = _ ∧ _
    exact lw_17 rc rm hi hX
  | 18, _ => by
    rw [b156_32, if_neg (by decide)]
    show ∃ h' st', sm_E PP X 156 642 [(0, .retAddr 40), (1, .ref B), (2, .ref (B + 338)), (3, .int (nI i))] [] h = _ ∧ _
    exact lw_18 rc rm hi hX
  | 19, _ => by
    rw [b156_32, if_neg (by decide)]
    show ∃ h' st', sm_E PP X 156 665 [(0, .retAddr 40), (1, .ref B), (2, .ref (B + 338)), (3, .int (nI i))] [] h = _ ∧ _
    exact lw_19 rc rm hi hX
  | j + 20, hj => absurd hj (by omega)
theorem law_loop {X : smX} (hX : X.1 ≤ 2560) {B : Nat} : ∀ (d i : Nat) (h : smH) (st : St), X.1 < i + 5 * d → i ≤ 2560 → RepC h B st → RepM h (B + 338) st → ∃ h', sm_E PP X 156 18 [(0, .retAddr 40), (1, .ref B), (2, .ref (B + 338)), (3, .int (nI i))] [] h = some (some (.int 1), h') ∧ h'.2 = h.2 := by
  intro d
  induction d with
  | zero =>
    intro i h st hd hi2 rc rm
    refine ⟨h, ?_, rfl⟩
    rw [b156_18]
    show sm_al (some (.int, X.1, .inl X.2)) _ = _
    rw [sm_al_s, if_pos (by rw [i_lt, pk_sub_toInt (by omega) (by omega), nI_toInt (by omega)]; omega), if_pos nk11]
    rfl
  | succ d ih =>
    intro i h st hd hi2 rc rm
    have hE : ∀ κ, sm_E PP X 156 18 [(0, .retAddr 40), (1, .ref B), (2, .ref (B + 338)), (3, .int (nI i))] [] h = κ ↔ (if nI X.1 - nI 5 < nI i then (if narrow (sm_nk 1) (.int (nI 1)) = .int (nI 1) then some (some (.int (nI 1)), h) else none) else sm_ld (some (.int, X.1, .inl X.2)) .int (nI i) fun v2 => sm_E PP X 156 32 [(0, .retAddr 40), (1, .ref B), (2, .ref (B + 338)), (3, .int (nI i))] [.int (v2 &&& (nI 31))] h) = κ := fun κ => by
      rw [b156_18]
      exact Iff.rfl
    by_cases h1 : X.1 < i + 5
    · refine ⟨h, (hE _).mpr ?_, rfl⟩
      rw [if_pos (by rw [i_lt, pk_sub_toInt (by omega) (by omega), nI_toInt (by omega)]; omega), if_pos nk11]
      rfl
    · obtain ⟨j, hj, ej⟩ := pk_andE (X.2 i) (m := nI 31) 5 (by decide)
      have hs : ∃ h' st', sm_E PP X 156 32 [(0, .retAddr 40), (1, .ref B), (2, .ref (B + 338)), (3, .int (nI i))] [.int (nI j)] h = sm_E PP X 156 688 [(0, .retAddr 40), (1, .ref B), (2, .ref (B + 338)), (3, .int (nI i))] [] h' ∧ RepC h' B st' ∧ RepM h' (B + 338) st' ∧ h'.2 = h.2 := by
        by_cases h2 : j < 20
        · exact lw_sw rc rm (by omega) hX j h2
        · refine ⟨h, st, ?_, rc, rm, rfl⟩
          rw [b156_32, if_pos (Or.inr (by rw [nI_toInt (by omega)]; omega))]
      obtain ⟨h3, st3, e3, rc3, rm3, k3⟩ := hs
      obtain ⟨h4, e4, k4⟩ := ih (i + 5) h3 st3 (by omega) (by omega) rc3 rm3
      refine ⟨h4, (hE _).mpr ?_, k4.trans k3⟩
      rw [if_neg (by rw [i_lt, pk_sub_toInt (by omega) (by omega), nI_toInt (by omega)]; omega), ldO (by omega) (by omega), ej, e3, b156_688, nI_add]
      exact e4
theorem law_sm (X : smX) (hX : X.1 ≤ 2560) (B : Nat) : ∃ h' : smH, sm_E PP X 156 0 [(0, .retAddr 40)] [] (fun _ => none, B, 0) = some (some (.int 1), h') ∧ h'.2.1 ≤ B + 600000 ∧ h'.2.2 ≤ 7302250 := by
  obtain ⟨h1, e1, r1, k1⟩ := m26 (X := X) (h := sm_n ((fun _ => none, B, 0) : smH) (.inr (7, PP.2.2.1 7)) (PP.2.2.1 7).length) (B := B) n_eq rfl
  have z1 : h1.2 = (B + 1 + 337, 0 + 7 + 94797) := k1.1
  have n1 : h1.2.1 = B + 338 := by rw [z1]
  have k2 : Nx h1 (sm_n h1 (.inr (8, PP.2.2.1 8)) (PP.2.2.1 8).length) h1.2.1 1 18 := Nx.n
  obtain ⟨h2, e2, r2, k3⟩ := m106 (X := X) (h := sm_n h1 (.inr (8, PP.2.2.1 8)) (PP.2.2.1 8).length) (t := h1.2.1) n_eq rfl
  have rc := (r1.nx k2 (by omega)).nx k3 (by omega)
  have k4 := k2.s k3
  rw [n1] at r2
  obtain ⟨h3, e3, k5⟩ := law_loop hX (X.1 + 1) 0 h2 St0 (by omega) (by omega) rc r2
  have z3 := k5.trans k4.1
  rw [z1] at z3
  refine ⟨h3, ?_, by rw [z3]; show B + 1 + 337 + _ ≤ _; omega, by rw [z3]; show 0 + 7 + 94797 + _ ≤ _; omega⟩
  rw [b156_0]
  show sm_cR (sm_C PP X 26 [.ref B] _) _ = _
  rw [e1]
  simp only [sm_gI_s, sm_gR_s, sm_gJ_s, sm_cR_s, sm_al_s, sm_sw_s, sm_tl1, sm_tl0, sm_ap0, sm_ap1, List.getElem?_cons_zero, List.getElem?_cons_succ, nk10, nk11, if_true, eq_self, b156_7]
  rw [e2]
  simp only [sm_gI_s, sm_gR_s, sm_gJ_s, sm_cR_s, sm_al_s, sm_sw_s, sm_tl1, sm_tl0, sm_ap0, sm_ap1, List.getElem?_cons_zero, List.getElem?_cons_succ, nk10, nk11, if_true, eq_self, b156_15, n1]
  exact e3
