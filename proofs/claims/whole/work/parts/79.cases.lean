/-! the law, call by call -/
theorem lw_0 {X : smX} {h : smH} {B i : Nat} {st : St} (rc : RepC h B st) (rm : RepM h (B + 338) st) (hi : i + 5 ≤ X.1) (hX : X.1 ≤ 2560) : ∃ h' st', sm_E PP X 156 128 [(0, .retAddr 40), (1, .ref B), (2, .ref (B + 338)), (3, .int (nI i))] [] h = sm_E PP X 156 688 [(0, .retAddr 40), (1, .ref B), (2, .ref (B + 338)), (3, .int (nI i))] [] h' ∧ RepC h' B st' ∧ RepM h' (B + 338) st' ∧ h'.2 = h.2 := by
  have ld : ∀ (j : Nat), j < 5 → ∀ (h : smH) (κ : Int32 → smR), sm_ld (sm_ar PP X h (.retAddr 40)) .int (nI (i + j)) κ = κ (X.2 (i + j)) := fun j hj h κ => by
    show sm_ld (some (.int, X.1, .inl X.2)) .int _ κ = _
    rw [ldO (by omega) (by omega)]
  obtain ⟨h1, e1, r1, k1⟩ := m28 (X := X) rc (X.2 (i + 1))
  have rm1 := rm.out k1 (by omega)
  obtain ⟨h2, e2, r2, k2⟩ := m108 (X := X) rm1 (X.2 (i + 1))
  obtain ⟨q1, a1⟩ := rm1.ob
  refine ⟨h2, _, ?_, r1.out k2 (by omega), r2, k2.1.trans k1.1⟩
  simp only [b156_128, nI_add, ld 1 (by omega), vO rc.1.1, e1, sm_gI_s, sm_gR_s, sm_gJ_s, sm_cR_s, sm_al_s, sm_sw_s, sm_tl1, sm_tl0, sm_ap0, sm_ap1, List.getElem?_cons_zero, List.getElem?_cons_succ, nk10, nk11, if_true, eq_self, b156_137, vO a1, e2, b156_146]
theorem lw_1 {X : smX} {h : smH} {B i : Nat} {st : St} (rc : RepC h B st) (rm : RepM h (B + 338) st) (hi : i + 5 ≤ X.1) (hX : X.1 ≤ 2560) : ∃ h' st', sm_E PP X 156 151 [(0, .retAddr 40), (1, .ref B), (2, .ref (B + 338)), (3, .int (nI i))] [] h = sm_E PP X 156 688 [(0, .retAddr 40), (1, .ref B), (2, .ref (B + 338)), (3, .int (nI i))] [] h' ∧ RepC h' B st' ∧ RepM h' (B + 338) st' ∧ h'.2 = h.2 := by
  obtain ⟨h1, e1, r1, k1⟩ := m29 (X := X) rc 
  have rm1 := rm.out k1 (by omega)
  obtain ⟨h2, e2, r2, k2⟩ := m109 (X := X) rm1 
  obtain ⟨q1, a1⟩ := rm1.ob
  refine ⟨h2, _, ?_, r1.out k2 (by omega), r2, k2.1.trans k1.1⟩
  simp only [b156_151, vO rc.1.1, e1, sm_gI_s, sm_gR_s, sm_gJ_s, sm_cR_s, sm_al_s, sm_sw_s, sm_tl1, sm_tl0, sm_ap0, sm_ap1, List.getElem?_cons_zero, List.getElem?_cons_succ, nk10, nk11, if_true, eq_self, b156_155, vO a1, e2, b156_159]
theorem lw_2 {X : smX} {h : smH} {B i : Nat} {st : St} (rc : RepC h B st) (rm : RepM h (B + 338) st) (hi : i + 5 ≤ X.1) (hX : X.1 ≤ 2560) : ∃ h' st', sm_E PP X 156 164 [(0, .retAddr 40), (1, .ref B), (2, .ref (B + 338)), (3, .int (nI i))] [] h = sm_E PP X 156 688 [(0, .retAddr 40), (1, .ref B), (2, .ref (B + 338)), (3, .int (nI i))] [] h' ∧ RepC h' B st' ∧ RepM h' (B + 338) st' ∧ h'.2 = h.2 := by
  obtain ⟨h1, e1, r1, k1⟩ := m47 (X := X) rc 
  have rm1 := rm.out k1 (by omega)
  obtain ⟨h2, e2, r2, k2⟩ := m115 (X := X) rm1 
  obtain ⟨q1, a1⟩ := rm1.ob
  refine ⟨h2, _, ?_, r1.out k2 (by omega), r2, k2.1.trans k1.1⟩
  simp only [b156_164, vO rc.1.1, e1, sm_gI_s, sm_gR_s, sm_gJ_s, sm_cR_s, sm_al_s, sm_sw_s, sm_tl1, sm_tl0, sm_ap0, sm_ap1, List.getElem?_cons_zero, List.getElem?_cons_succ, nk10, nk11, if_true, eq_self, b156_168, vO a1, e2, b156_172]
theorem lw_3 {X : smX} {h : smH} {B i : Nat} {st : St} (rc : RepC h B st) (rm : RepM h (B + 338) st) (hi : i + 5 ≤ X.1) (hX : X.1 ≤ 2560) : ∃ h' st', sm_E PP X 156 177 [(0, .retAddr 40), (1, .ref B), (2, .ref (B + 338)), (3, .int (nI i))] [] h = sm_E PP X 156 688 [(0, .retAddr 40), (1, .ref B), (2, .ref (B + 338)), (3, .int (nI i))] [] h' ∧ RepC h' B st' ∧ RepM h' (B + 338) st' ∧ h'.2 = h.2 := by
  have ld : ∀ (j : Nat), j < 5 → ∀ (h : smH) (κ : Int32 → smR), sm_ld (sm_ar PP X h (.retAddr 40)) .int (nI (i + j)) κ = κ (X.2 (i + j)) := fun j hj h κ => by
    show sm_ld (some (.int, X.1, .inl X.2)) .int _ κ = _
    rw [ldO (by omega) (by omega)]
  obtain ⟨h1, e1, r1, k1⟩ := m50 (X := X) rc (X.2 (i + 1))
  have rm1 := rm.out k1 (by omega)
  obtain ⟨h2, e2, r2, k2⟩ := m117 (X := X) rm1 (X.2 (i + 1))
  obtain ⟨q1, a1⟩ := rm1.ob
  refine ⟨h2, _, ?_, r1.out k2 (by omega), r2, k2.1.trans k1.1⟩
  simp only [b156_177, nI_add, ld 1 (by omega), vO rc.1.1, e1, sm_gI_s, sm_gR_s, sm_gJ_s, sm_cR_s, sm_al_s, sm_sw_s, sm_tl1, sm_tl0, sm_ap0, sm_ap1, List.getElem?_cons_zero, List.getElem?_cons_succ, nk10, nk11, if_true, eq_self, b156_186, vO a1, e2, b156_195]
theorem lw_4 {X : smX} {h : smH} {B i : Nat} {st : St} (rc : RepC h B st) (rm : RepM h (B + 338) st) (hi : i + 5 ≤ X.1) (hX : X.1 ≤ 2560) : ∃ h' st', sm_E PP X 156 200 [(0, .retAddr 40), (1, .ref B), (2, .ref (B + 338)), (3, .int (nI i))] [] h = sm_E PP X 156 688 [(0, .retAddr 40), (1, .ref B), (2, .ref (B + 338)), (3, .int (nI i))] [] h' ∧ RepC h' B st' ∧ RepM h' (B + 338) st' ∧ h'.2 = h.2 := by
  have ld : ∀ (j : Nat), j < 5 → ∀ (h : smH) (κ : Int32 → smR), sm_ld (sm_ar PP X h (.retAddr 40)) .int (nI (i + j)) κ = κ (X.2 (i + j)) := fun j hj h κ => by
    show sm_ld (some (.int, X.1, .inl X.2)) .int _ κ = _
    rw [ldO (by omega) (by omega)]
  obtain ⟨h1, e1, r1, k1⟩ := m52 (X := X) rc (X.2 (i + 1)) (X.2 (i + 2)) (X.2 (i + 3))
  have rm1 := rm.out k1 (by omega)
  obtain ⟨h2, e2, r2, k2⟩ := m120 (X := X) rm1 (X.2 (i + 1)) (X.2 (i + 2)) (X.2 (i + 3))
  obtain ⟨q1, a1⟩ := rm1.ob
  refine ⟨h2, _, ?_, r1.out k2 (by omega), r2, k2.1.trans k1.1⟩
  simp only [b156_200, nI_add, ld 1 (by omega), ld 2 (by omega), ld 3 (by omega), vO rc.1.1, e1, sm_gI_s, sm_gR_s, sm_gJ_s, sm_cR_s, sm_al_s, sm_sw_s, sm_tl1, sm_tl0, sm_ap0, sm_ap1, List.getElem?_cons_zero, List.getElem?_cons_succ, nk10, nk11, if_true, eq_self, b156_219, vO a1, e2, b156_238]
theorem lw_5 {X : smX} {h : smH} {B i : Nat} {st : St} (rc : RepC h B st) (rm : RepM h (B + 338) st) (hi : i + 5 ≤ X.1) (hX : X.1 ≤ 2560) : ∃ h' st', sm_E PP X 156 243 [(0, .retAddr 40), (1, .ref B), (2, .ref (B + 338)), (3, .int (nI i))] [] h = sm_E PP X 156 688 [(0, .retAddr 40), (1, .ref B), (2, .ref (B + 338)), (3, .int (nI i))] [] h' ∧ RepC h' B st' ∧ RepM h' (B + 338) st' ∧ h'.2 = h.2 := by
  have ld : ∀ (j : Nat), j < 5 → ∀ (h : smH) (κ : Int32 → smR), sm_ld (sm_ar PP X h (.retAddr 40)) .int (nI (i + j)) κ = κ (X.2 (i + j)) := fun j hj h κ => by
    show sm_ld (some (.int, X.1, .inl X.2)) .int _ κ = _
    rw [ldO (by omega) (by omega)]
  obtain ⟨h1, e1, r1, k1⟩ := m56 (X := X) rc (X.2 (i + 1)) (X.2 (i + 2)) (X.2 (i + 3)) (X.2 (i + 4))
  have rm1 := rm.out k1 (by omega)
  obtain ⟨h2, e2, r2, k2⟩ := m122 (X := X) rm1 (X.2 (i + 1)) (X.2 (i + 2)) (X.2 (i + 3)) (X.2 (i + 4))
  obtain ⟨q1, a1⟩ := rm1.ob
  refine ⟨h2, _, ?_, r1.out k2 (by omega), r2, k2.1.trans k1.1⟩
  simp only [b156_243, nI_add, ld 1 (by omega), ld 2 (by omega), ld 3 (by omega), ld 4 (by omega), vO rc.1.1, e1, sm_gI_s, sm_gR_s, sm_gJ_s, sm_cR_s, sm_al_s, sm_sw_s, sm_tl1, sm_tl0, sm_ap0, sm_ap1, List.getElem?_cons_zero, List.getElem?_cons_succ, nk10, nk11, if_true, eq_self, b156_267, vO a1, e2, b156_291]
theorem lw_6 {X : smX} {h : smH} {B i : Nat} {st : St} (rc : RepC h B st) (rm : RepM h (B + 338) st) (hi : i + 5 ≤ X.1) (hX : X.1 ≤ 2560) : ∃ h' st', sm_E PP X 156 296 [(0, .retAddr 40), (1, .ref B), (2, .ref (B + 338)), (3, .int (nI i))] [] h = sm_E PP X 156 688 [(0, .retAddr 40), (1, .ref B), (2, .ref (B + 338)), (3, .int (nI i))] [] h' ∧ RepC h' B st' ∧ RepM h' (B + 338) st' ∧ h'.2 = h.2 := by
  have ld : ∀ (j : Nat), j < 5 → ∀ (h : smH) (κ : Int32 → smR), sm_ld (sm_ar PP X h (.retAddr 40)) .int (nI (i + j)) κ = κ (X.2 (i + j)) := fun j hj h κ => by
    show sm_ld (some (.int, X.1, .inl X.2)) .int _ κ = _
    rw [ldO (by omega) (by omega)]
  obtain ⟨h1, e1, r1, k1⟩ := m57 (X := X) rc (X.2 (i + 1))
  have rm1 := rm.out k1 (by omega)
  obtain ⟨h2, e2, r2, k2⟩ := m124 (X := X) rm1 (X.2 (i + 1))
  obtain ⟨q1, a1⟩ := rm1.ob
  refine ⟨h2, _, ?_, r1.out k2 (by omega), r2, k2.1.trans k1.1⟩
  simp only [b156_296, nI_add, ld 1 (by omega), vO rc.1.1, e1, sm_gI_s, sm_gR_s, sm_gJ_s, sm_cR_s, sm_al_s, sm_sw_s, sm_tl1, sm_tl0, sm_ap0, sm_ap1, List.getElem?_cons_zero, List.getElem?_cons_succ, nk10, nk11, if_true, eq_self, b156_305, vO a1, e2, b156_314]
theorem lw_7 {X : smX} {h : smH} {B i : Nat} {st : St} (rc : RepC h B st) (rm : RepM h (B + 338) st) (hi : i + 5 ≤ X.1) (hX : X.1 ≤ 2560) : ∃ h' st', sm_E PP X 156 319 [(0, .retAddr 40), (1, .ref B), (2, .ref (B + 338)), (3, .int (nI i))] [] h = sm_E PP X 156 688 [(0, .retAddr 40), (1, .ref B), (2, .ref (B + 338)), (3, .int (nI i))] [] h' ∧ RepC h' B st' ∧ RepM h' (B + 338) st' ∧ h'.2 = h.2 := by
  have ld : ∀ (j : Nat), j < 5 → ∀ (h : smH) (κ : Int32 → smR), sm_ld (sm_ar PP X h (.retAddr 40)) .int (nI (i + j)) κ = κ (X.2 (i + j)) := fun j hj h κ => by
    show sm_ld (some (.int, X.1, .inl X.2)) .int _ κ = _
    rw [ldO (by omega) (by omega)]
  obtain ⟨h1, e1, r1, k1⟩ := m58 (X := X) rc (X.2 (i + 1))
  have rm1 := rm.out k1 (by omega)
  obtain ⟨h2, e2, r2, k2⟩ := m125 (X := X) rm1 (X.2 (i + 1))
  obtain ⟨q1, a1⟩ := rm1.ob
  refine ⟨h2, _, ?_, r1.out k2 (by omega), r2, k2.1.trans k1.1⟩
  simp only [b156_319, nI_add, ld 1 (by omega), vO rc.1.1, e1, sm_gI_s, sm_gR_s, sm_gJ_s, sm_cR_s, sm_al_s, sm_sw_s, sm_tl1, sm_tl0, sm_ap0, sm_ap1, List.getElem?_cons_zero, List.getElem?_cons_succ, nk10, nk11, if_true, eq_self, b156_328, vO a1, e2, b156_337]
theorem lw_8 {X : smX} {h : smH} {B i : Nat} {st : St} (rc : RepC h B st) (rm : RepM h (B + 338) st) (hi : i + 5 ≤ X.1) (hX : X.1 ≤ 2560) : ∃ h' st', sm_E PP X 156 342 [(0, .retAddr 40), (1, .ref B), (2, .ref (B + 338)), (3, .int (nI i))] [] h = sm_E PP X 156 688 [(0, .retAddr 40), (1, .ref B), (2, .ref (B + 338)), (3, .int (nI i))] [] h' ∧ RepC h' B st' ∧ RepM h' (B + 338) st' ∧ h'.2 = h.2 := by
  obtain ⟨h1, e1, r1, k1⟩ := m60 (X := X) rc 
  have rm1 := rm.out k1 (by omega)
  obtain ⟨h2, e2, r2, k2⟩ := m126 (X := X) rm1 
  obtain ⟨q1, a1⟩ := rm1.ob
  refine ⟨h2, _, ?_, r1.out k2 (by omega), r2, k2.1.trans k1.1⟩
  simp only [b156_342, vO rc.1.1, e1, sm_gI_s, sm_gR_s, sm_gJ_s, sm_cR_s, sm_al_s, sm_sw_s, sm_tl1, sm_tl0, sm_ap0, sm_ap1, List.getElem?_cons_zero, List.getElem?_cons_succ, nk10, nk11, if_true, eq_self, b156_346, vO a1, e2, b156_350]
theorem lw_9 {X : smX} {h : smH} {B i : Nat} {st : St} (rc : RepC h B st) (rm : RepM h (B + 338) st) (hi : i + 5 ≤ X.1) (hX : X.1 ≤ 2560) : ∃ h' st', sm_E PP X 156 355 [(0, .retAddr 40), (1, .ref B), (2, .ref (B + 338)), (3, .int (nI i))] [] h = sm_E PP X 156 688 [(0, .retAddr 40), (1, .ref B), (2, .ref (B + 338)), (3, .int (nI i))] [] h' ∧ RepC h' B st' ∧ RepM h' (B + 338) st' ∧ h'.2 = h.2 := by
  have ld : ∀ (j : Nat), j < 5 → ∀ (h : smH) (κ : Int32 → smR), sm_ld (sm_ar PP X h (.retAddr 40)) .int (nI (i + j)) κ = κ (X.2 (i + j)) := fun j hj h κ => by
    show sm_ld (some (.int, X.1, .inl X.2)) .int _ κ = _
    rw [ldO (by omega) (by omega)]
  obtain ⟨h1, e1, r1, k1⟩ := m71 (X := X) rc (X.2 (i + 1)) (X.2 (i + 2))
  have rm1 := rm.out k1 (by omega)
  obtain ⟨h2, e2, r2, k2⟩ := m135 (X := X) rm1 (X.2 (i + 1)) (X.2 (i + 2))
  obtain ⟨q1, a1⟩ := rm1.ob
  refine ⟨h2, _, ?_, r1.out k2 (by omega), r2, k2.1.trans k1.1⟩
  simp only [b156_355, nI_add, ld 1 (by omega), ld 2 (by omega), vO rc.1.1, e1, sm_gI_s, sm_gR_s, sm_gJ_s, sm_cR_s, sm_al_s, sm_sw_s, sm_tl1, sm_tl0, sm_ap0, sm_ap1, List.getElem?_cons_zero, List.getElem?_cons_succ, nk10, nk11, if_true, eq_self, b156_369, vO a1, e2, b156_383]
theorem lw_10 {X : smX} {h : smH} {B i : Nat} {st : St} (rc : RepC h B st) (rm : RepM h (B + 338) st) (hi : i + 5 ≤ X.1) (hX : X.1 ≤ 2560) : ∃ h' st', sm_E PP X 156 388 [(0, .retAddr 40), (1, .ref B), (2, .ref (B + 338)), (3, .int (nI i))] [] h = sm_E PP X 156 688 [(0, .retAddr 40), (1, .ref B), (2, .ref (B + 338)), (3, .int (nI i))] [] h' ∧ RepC h' B st' ∧ RepM h' (B + 338) st' ∧ h'.2 = h.2 := by
  have ld : ∀ (j : Nat), j < 5 → ∀ (h : smH) (κ : Int32 → smR), sm_ld (sm_ar PP X h (.retAddr 40)) .int (nI (i + j)) κ = κ (X.2 (i + j)) := fun j hj h κ => by
    show sm_ld (some (.int, X.1, .inl X.2)) .int _ κ = _
    rw [ldO (by omega) (by omega)]
  have e1 := m72 (X := X) rc (X.2 (i + 1)) (X.2 (i + 2)) (X.2 (i + 3))
  have rm1 := rm
  have e2 := m136 (X := X) rm1 (X.2 (i + 1)) (X.2 (i + 2)) (X.2 (i + 3))
  obtain ⟨q1, a1⟩ := rm1.ob
  refine ⟨h, _, ?_, rc, rm1, (Fr.rf (h := h) (lo := B + 338) (hi := B + 338 + 16)).1.trans (Fr.rf (h := h) (lo := B) (hi := B + 338)).1⟩
  simp only [b156_388, nI_add, ld 1 (by omega), ld 2 (by omega), ld 3 (by omega), vO rc.1.1, e1, sm_gI_s, sm_gR_s, sm_gJ_s, sm_cR_s, sm_al_s, sm_sw_s, sm_tl1, sm_tl0, sm_ap0, sm_ap1, List.getElem?_cons_zero, List.getElem?_cons_succ, nk10, nk11, if_true, eq_self, b156_407, vO a1, e2, b156_426]
theorem lw_11 {X : smX} {h : smH} {B i : Nat} {st : St} (rc : RepC h B st) (rm : RepM h (B + 338) st) (hi : i + 5 ≤ X.1) (hX : X.1 ≤ 2560) : ∃ h' st', sm_E PP X 156 431 [(0, .retAddr 40), (1, .ref B), (2, .ref (B + 338)), (3, .int (nI i))] [] h = sm_E PP X 156 688 [(0, .retAddr 40), (1, .ref B), (2, .ref (B + 338)), (3, .int (nI i))] [] h' ∧ RepC h' B st' ∧ RepM h' (B + 338) st' ∧ h'.2 = h.2 := by
  have ld : ∀ (j : Nat), j < 5 → ∀ (h : smH) (κ : Int32 → smR), sm_ld (sm_ar PP X h (.retAddr 40)) .int (nI (i + j)) κ = κ (X.2 (i + j)) := fun j hj h κ => by
    show sm_ld (some (.int, X.1, .inl X.2)) .int _ κ = _
    rw [ldO (by omega) (by omega)]
  have e1 := m73 (X := X) rc (X.2 (i + 1)) (X.2 (i + 2)) (X.2 (i + 3))
  have rm1 := rm
  obtain ⟨h2, e2, r2, k2⟩ := m137 (X := X) rm1 (X.2 (i + 1)) (X.2 (i + 2)) (X.2 (i + 3))
  obtain ⟨q1, a1⟩ := rm1.ob
  refine ⟨h2, _, ?_, rc.out k2 (by omega), r2, k2.1.trans (Fr.rf (h := h) (lo := B) (hi := B + 338)).1⟩
  simp only [b156_431, nI_add, ld 1 (by omega), ld 2 (by omega), ld 3 (by omega), vO rc.1.1, e1, sm_gI_s, sm_gR_s, sm_gJ_s, sm_cR_s, sm_al_s, sm_sw_s, sm_tl1, sm_tl0, sm_ap0, sm_ap1, List.getElem?_cons_zero, List.getElem?_cons_succ, nk10, nk11, if_true, eq_self, b156_450, vO a1, e2, b156_469]
theorem lw_12 {X : smX} {h : smH} {B i : Nat} {st : St} (rc : RepC h B st) (rm : RepM h (B + 338) st) (hi : i + 5 ≤ X.1) (hX : X.1 ≤ 2560) : ∃ h' st', sm_E PP X 156 474 [(0, .retAddr 40), (1, .ref B), (2, .ref (B + 338)), (3, .int (nI i))] [] h = sm_E PP X 156 688 [(0, .retAddr 40), (1, .ref B), (2, .ref (B + 338)), (3, .int (nI i))] [] h' ∧ RepC h' B st' ∧ RepM h' (B + 338) st' ∧ h'.2 = h.2 := by
  have ld : ∀ (j : Nat), j < 5 → ∀ (h : smH) (κ : Int32 → smR), sm_ld (sm_ar PP X h (.retAddr 40)) .int (nI (i + j)) κ = κ (X.2 (i + j)) := fun j hj h κ => by
    show sm_ld (some (.int, X.1, .inl X.2)) .int _ κ = _
    rw [ldO (by omega) (by omega)]
  obtain ⟨h1, e1, r1, k1⟩ := m78 (X := X) rc (X.2 (i + 1)) (X.2 (i + 2)) (X.2 (i + 3))
  have rm1 := rm.out k1 (by omega)
  obtain ⟨h2, e2, r2, k2⟩ := m138 (X := X) rm1 (X.2 (i + 1)) (X.2 (i + 2)) (X.2 (i + 3))
  obtain ⟨q1, a1⟩ := rm1.ob
  refine ⟨h2, _, ?_, r1.out k2 (by omega), r2, k2.1.trans k1.1⟩
  simp only [b156_474, nI_add, ld 1 (by omega), ld 2 (by omega), ld 3 (by omega), vO rc.1.1, e1, sm_gI_s, sm_gR_s, sm_gJ_s, sm_cR_s, sm_al_s, sm_sw_s, sm_tl1, sm_tl0, sm_ap0, sm_ap1, List.getElem?_cons_zero, List.getElem?_cons_succ, nk10, nk11, if_true, eq_self, b156_493, vO a1, e2, b156_512]
theorem lw_13 {X : smX} {h : smH} {B i : Nat} {st : St} (rc : RepC h B st) (rm : RepM h (B + 338) st) (hi : i + 5 ≤ X.1) (hX : X.1 ≤ 2560) : ∃ h' st', sm_E PP X 156 517 [(0, .retAddr 40), (1, .ref B), (2, .ref (B + 338)), (3, .int (nI i))] [] h = sm_E PP X 156 688 [(0, .retAddr 40), (1, .ref B), (2, .ref (B + 338)), (3, .int (nI i))] [] h' ∧ RepC h' B st' ∧ RepM h' (B + 338) st' ∧ h'.2 = h.2 := by
  have ld : ∀ (j : Nat), j < 5 → ∀ (h : smH) (κ : Int32 → smR), sm_ld (sm_ar PP X h (.retAddr 40)) .int (nI (i + j)) κ = κ (X.2 (i + j)) := fun j hj h κ => by
    show sm_ld (some (.int, X.1, .inl X.2)) .int _ κ = _
    rw [ldO (by omega) (by omega)]
  have e1 := m79 (X := X) rc (X.2 (i + 1)) (X.2 (i + 2))
  have rm1 := rm
  obtain ⟨h2, e2, r2, k2⟩ := m139 (X := X) rm1 (X.2 (i + 1)) (X.2 (i + 2))
  obtain ⟨q1, a1⟩ := rm1.ob
  refine ⟨h2, _, ?_, rc.out k2 (by omega), r2, k2.1.trans (Fr.rf (h := h) (lo := B) (hi := B + 338)).1⟩
  simp only [b156_517, nI_add, ld 1 (by omega), ld 2 (by omega), vO rc.1.1, e1, sm_gI_s, sm_gR_s, sm_gJ_s, sm_cR_s, sm_al_s, sm_sw_s, sm_tl1, sm_tl0, sm_ap0, sm_ap1, List.getElem?_cons_zero, List.getElem?_cons_succ, nk10, nk11, if_true, eq_self, b156_531, vO a1, e2, b156_545]
theorem lw_14 {X : smX} {h : smH} {B i : Nat} {st : St} (rc : RepC h B st) (rm : RepM h (B + 338) st) (hi : i + 5 ≤ X.1) (hX : X.1 ≤ 2560) : ∃ h' st', sm_E PP X 156 550 [(0, .retAddr 40), (1, .ref B), (2, .ref (B + 338)), (3, .int (nI i))] [] h = sm_E PP X 156 688 [(0, .retAddr 40), (1, .ref B), (2, .ref (B + 338)), (3, .int (nI i))] [] h' ∧ RepC h' B st' ∧ RepM h' (B + 338) st' ∧ h'.2 = h.2 := by
  have ld : ∀ (j : Nat), j < 5 → ∀ (h : smH) (κ : Int32 → smR), sm_ld (sm_ar PP X h (.retAddr 40)) .int (nI (i + j)) κ = κ (X.2 (i + j)) := fun j hj h κ => by
    show sm_ld (some (.int, X.1, .inl X.2)) .int _ κ = _
    rw [ldO (by omega) (by omega)]
  obtain ⟨h1, e1, r1, k1⟩ := m91 (X := X) rc (X.2 (i + 1))
  have rm1 := rm.out k1 (by omega)
  obtain ⟨h2, e2, r2, k2⟩ := m146 (X := X) rm1 (X.2 (i + 1))
  obtain ⟨q1, a1⟩ := rm1.ob
  refine ⟨h2, _, ?_, r1.out k2 (by omega), r2, k2.1.trans k1.1⟩
  simp only [b156_550, nI_add, ld 1 (by omega), vO rc.1.1, e1, sm_gI_s, sm_gR_s, sm_gJ_s, sm_cR_s, sm_al_s, sm_sw_s, sm_tl1, sm_tl0, sm_ap0, sm_ap1, List.getElem?_cons_zero, List.getElem?_cons_succ, nk10, nk11, if_true, eq_self, b156_559, vO a1, e2, b156_568]
theorem lw_15 {X : smX} {h : smH} {B i : Nat} {st : St} (rc : RepC h B st) (rm : RepM h (B + 338) st) (hi : i + 5 ≤ X.1) (hX : X.1 ≤ 2560) : ∃ h' st', sm_E PP X 156 573 [(0, .retAddr 40), (1, .ref B), (2, .ref (B + 338)), (3, .int (nI i))] [] h = sm_E PP X 156 688 [(0, .retAddr 40), (1, .ref B), (2, .ref (B + 338)), (3, .int (nI i))] [] h' ∧ RepC h' B st' ∧ RepM h' (B + 338) st' ∧ h'.2 = h.2 := by
  have ld : ∀ (j : Nat), j < 5 → ∀ (h : smH) (κ : Int32 → smR), sm_ld (sm_ar PP X h (.retAddr 40)) .int (nI (i + j)) κ = κ (X.2 (i + j)) := fun j hj h κ => by
    show sm_ld (some (.int, X.1, .inl X.2)) .int _ κ = _
    rw [ldO (by omega) (by omega)]
  obtain ⟨h1, e1, r1, k1⟩ := m98 (X := X) rc (X.2 (i + 1))
  have rm1 := rm.out k1 (by omega)
  obtain ⟨h2, e2, r2, k2⟩ := m150 (X := X) rm1 (X.2 (i + 1))
  obtain ⟨q1, a1⟩ := rm1.ob
  refine ⟨h2, _, ?_, r1.out k2 (by omega), r2, k2.1.trans k1.1⟩
  simp only [b156_573, nI_add, ld 1 (by omega), vO rc.1.1, e1, sm_gI_s, sm_gR_s, sm_gJ_s, sm_cR_s, sm_al_s, sm_sw_s, sm_tl1, sm_tl0, sm_ap0, sm_ap1, List.getElem?_cons_zero, List.getElem?_cons_succ, nk10, nk11, if_true, eq_self, b156_582, vO a1, e2, b156_591]
theorem lw_16 {X : smX} {h : smH} {B i : Nat} {st : St} (rc : RepC h B st) (rm : RepM h (B + 338) st) (hi : i + 5 ≤ X.1) (hX : X.1 ≤ 2560) : ∃ h' st', sm_E PP X 156 596 [(0, .retAddr 40), (1, .ref B), (2, .ref (B + 338)), (3, .int (nI i))] [] h = sm_E PP X 156 688 [(0, .retAddr 40), (1, .ref B), (2, .ref (B + 338)), (3, .int (nI i))] [] h' ∧ RepC h' B st' ∧ RepM h' (B + 338) st' ∧ h'.2 = h.2 := by
  have ld : ∀ (j : Nat), j < 5 → ∀ (h : smH) (κ : Int32 → smR), sm_ld (sm_ar PP X h (.retAddr 40)) .int (nI (i + j)) κ = κ (X.2 (i + j)) := fun j hj h κ => by
    show sm_ld (some (.int, X.1, .inl X.2)) .int _ κ = _
    rw [ldO (by omega) (by omega)]
  obtain ⟨h1, e1, r1, k1⟩ := m101 (X := X) rc (X.2 (i + 1))
  have rm1 := rm.out k1 (by omega)
  obtain ⟨h2, e2, r2, k2⟩ := m152 (X := X) rm1 (X.2 (i + 1))
  obtain ⟨q1, a1⟩ := rm1.ob
  refine ⟨h2, _, ?_, r1.out k2 (by omega), r2, k2.1.trans k1.1⟩
  simp only [b156_596, nI_add, ld 1 (by omega), vO rc.1.1, e1, sm_gI_s, sm_gR_s, sm_gJ_s, sm_cR_s, sm_al_s, sm_sw_s, sm_tl1, sm_tl0, sm_ap0, sm_ap1, List.getElem?_cons_zero, List.getElem?_cons_succ, nk10, nk11, if_true, eq_self, b156_605, vO a1, e2, b156_614]
theorem lw_17 {X : smX} {h : smH} {B i : Nat} {st : St} (rc : RepC h B st) (rm : RepM h (B + 338) st) (hi : i + 5 ≤ X.1) (hX : X.1 ≤ 2560) : ∃ h' st', sm_E PP X 156 619 [(0, .retAddr 40), (1, .ref B), (2, .ref (B + 338)), (3, .int (nI i))] [] h = sm_E PP X 156 688 [(0, .retAddr 40), (1, .ref B), (2, .ref (B + 338)), (3, .int (nI i))] [] h' ∧ RepC h' B st' ∧ RepM h' (B + 338) st' ∧ h'.2 = h.2 := by
  have ld : ∀ (j : Nat), j < 5 → ∀ (h : smH) (κ : Int32 → smR), sm_ld (sm_ar PP X h (.retAddr 40)) .int (nI (i + j)) κ = κ (X.2 (i + j)) := fun j hj h κ => by
    show sm_ld (some (.int, X.1, .inl X.2)) .int _ κ = _
    rw [ldO (by omega) (by omega)]
  obtain ⟨h1, e1, r1, k1⟩ := m102 (X := X) rc (X.2 (i + 1))
  have rm1 := rm.out k1 (by omega)
  obtain ⟨h2, e2, r2, k2⟩ := m153 (X := X) rm1 (X.2 (i + 1))
  obtain ⟨q1, a1⟩ := rm1.ob
  refine ⟨h2, _, ?_, r1.out k2 (by omega), r2, k2.1.trans k1.1⟩
  simp only [b156_619, nI_add, ld 1 (by omega), vO rc.1.1, e1, sm_gI_s, sm_gR_s, sm_gJ_s, sm_cR_s, sm_al_s, sm_sw_s, sm_tl1, sm_tl0, sm_ap0, sm_ap1, List.getElem?_cons_zero, List.getElem?_cons_succ, nk10, nk11, if_true, eq_self, b156_628, vO a1, e2, b156_637]
theorem lw_18 {X : smX} {h : smH} {B i : Nat} {st : St} (rc : RepC h B st) (rm : RepM h (B + 338) st) (hi : i + 5 ≤ X.1) (hX : X.1 ≤ 2560) : ∃ h' st', sm_E PP X 156 642 [(0, .retAddr 40), (1, .ref B), (2, .ref (B + 338)), (3, .int (nI i))] [] h = sm_E PP X 156 688 [(0, .retAddr 40), (1, .ref B), (2, .ref (B + 338)), (3, .int (nI i))] [] h' ∧ RepC h' B st' ∧ RepM h' (B + 338) st' ∧ h'.2 = h.2 := by
  have ld : ∀ (j : Nat), j < 5 → ∀ (h : smH) (κ : Int32 → smR), sm_ld (sm_ar PP X h (.retAddr 40)) .int (nI (i + j)) κ = κ (X.2 (i + j)) := fun j hj h κ => by
    show sm_ld (some (.int, X.1, .inl X.2)) .int _ κ = _
    rw [ldO (by omega) (by omega)]
  obtain ⟨h1, e1, r1, k1⟩ := m103 (X := X) rc (X.2 (i + 1))
  have rm1 := rm.out k1 (by omega)
  obtain ⟨h2, e2, r2, k2⟩ := m154 (X := X) rm1 (X.2 (i + 1))
  obtain ⟨q1, a1⟩ := rm1.ob
  refine ⟨h2, _, ?_, r1.out k2 (by omega), r2, k2.1.trans k1.1⟩
  simp only [b156_642, nI_add, ld 1 (by omega), vO rc.1.1, e1, sm_gI_s, sm_gR_s, sm_gJ_s, sm_cR_s, sm_al_s, sm_sw_s, sm_tl1, sm_tl0, sm_ap0, sm_ap1, List.getElem?_cons_zero, List.getElem?_cons_succ, nk10, nk11, if_true, eq_self, b156_651, vO a1, e2, b156_660]
theorem lw_19 {X : smX} {h : smH} {B i : Nat} {st : St} (rc : RepC h B st) (rm : RepM h (B + 338) st) (hi : i + 5 ≤ X.1) (hX : X.1 ≤ 2560) : ∃ h' st', sm_E PP X 156 665 [(0, .retAddr 40), (1, .ref B), (2, .ref (B + 338)), (3, .int (nI i))] [] h = sm_E PP X 156 688 [(0, .retAddr 40), (1, .ref B), (2, .ref (B + 338)), (3, .int (nI i))] [] h' ∧ RepC h' B st' ∧ RepM h' (B + 338) st' ∧ h'.2 = h.2 := by
  have ld : ∀ (j : Nat), j < 5 → ∀ (h : smH) (κ : Int32 → smR), sm_ld (sm_ar PP X h (.retAddr 40)) .int (nI (i + j)) κ = κ (X.2 (i + j)) := fun j hj h κ => by
    show sm_ld (some (.int, X.1, .inl X.2)) .int _ κ = _
    rw [ldO (by omega) (by omega)]
  obtain ⟨h1, e1, r1, k1⟩ := m105 (X := X) rc (X.2 (i + 1))
  have rm1 := rm.out k1 (by omega)
  obtain ⟨h2, e2, r2, k2⟩ := m155 (X := X) rm1 (X.2 (i + 1))
  obtain ⟨q1, a1⟩ := rm1.ob
  refine ⟨h2, _, ?_, r1.out k2 (by omega), r2, k2.1.trans k1.1⟩
  simp only [b156_665, nI_add, ld 1 (by omega), vO rc.1.1, e1, sm_gI_s, sm_gR_s, sm_gJ_s, sm_cR_s, sm_al_s, sm_sw_s, sm_tl1, sm_tl0, sm_ap0, sm_ap1, List.getElem?_cons_zero, List.getElem?_cons_succ, nk10, nk11, if_true, eq_self, b156_674, vO a1, e2, b156_683]
