/-! readText of the reference -/
theorem m110 {X : smX} {h : smH} {c : Nat} (hc : c < 256) : sm_C PP X 110 [.int (nI c)] h = some (some (.int (bI (decide ((97 ≤ c ∧ c ≤ 122) ∨ c = 63)))), h) := by
  rw [c110, b110_0, m107]
  simp only [sm_gI_s, sm_gR_s, sm_gJ_s, sm_cR_s, sm_al_s, sm_sw_s, sm_tl1, sm_tl0, sm_ap0, sm_ap1, List.getElem?_cons_zero, List.getElem?_cons_succ, nk10, nk11, if_true, eq_self, b110_8, bI_0, b110_17, b110_22, nI_toInt (show c < 2 ^ 31 by omega), show (nI 97).toInt = 97 by decide, show (nI 122).toInt = 122 by decide, nI_eq (show c < 2 ^ 31 by omega) (show 63 < 2 ^ 31 by omega)]
  by_cases h1 : 97 ≤ c ∧ c ≤ 122
  · rw [show decide ((97 : Int) ≤ (c : Int) ∧ (c : Int) ≤ 122) = true from decide_eq_true (by omega), if_neg (show ¬ (true = false) by decide), show decide ((97 ≤ c ∧ c ≤ 122) ∨ c = 63) = true from decide_eq_true (Or.inl h1)]
    rfl
  · rw [show decide ((97 : Int) ≤ (c : Int) ∧ (c : Int) ≤ 122) = false from decide_eq_false (by omega), if_pos rfl]
    by_cases h2 : c = 63
    · rw [if_pos h2, show decide ((97 ≤ c ∧ c ≤ 122) ∨ c = 63) = true from decide_eq_true (Or.inr h2)]
      rfl
    · rw [if_neg h2, show decide ((97 ≤ c ∧ c ≤ 122) ∨ c = 63) = false from decide_eq_false (by omega)]
      rfl
theorem m111 {X : smX} {h : smH} {c : Nat} (hc : c < 256) : sm_C PP X 111 [.int (nI c)] h = some (some (.int (bI (decide ((48 ≤ c ∧ c ≤ 57) ∨ c = 63)))), h) := by
  rw [c111, b111_0, m107]
  simp only [sm_gI_s, sm_gR_s, sm_gJ_s, sm_cR_s, sm_al_s, sm_sw_s, sm_tl1, sm_tl0, sm_ap0, sm_ap1, List.getElem?_cons_zero, List.getElem?_cons_succ, nk10, nk11, if_true, eq_self, b111_8, bI_0, b111_17, b111_22, nI_toInt (show c < 2 ^ 31 by omega), show (nI 48).toInt = 48 by decide, show (nI 57).toInt = 57 by decide, nI_eq (show c < 2 ^ 31 by omega) (show 63 < 2 ^ 31 by omega)]
  by_cases h1 : 48 ≤ c ∧ c ≤ 57
  · rw [show decide ((48 : Int) ≤ (c : Int) ∧ (c : Int) ≤ 57) = true from decide_eq_true (by omega), if_neg (show ¬ (true = false) by decide), show decide ((48 ≤ c ∧ c ≤ 57) ∨ c = 63) = true from decide_eq_true (Or.inl h1)]
    rfl
  · rw [show decide ((48 : Int) ≤ (c : Int) ∧ (c : Int) ≤ 57) = false from decide_eq_false (by omega), if_pos rfl]
    by_cases h2 : c = 63
    · rw [if_pos h2, show decide ((48 ≤ c ∧ c ≤ 57) ∨ c = 63) = true from decide_eq_true (Or.inr h2)]
      rfl
    · rw [if_neg h2, show decide ((48 ≤ c ∧ c ≤ 57) ∨ c = 63) = false from decide_eq_false (by omega)]
      rfl
theorem m112_f {X : smX} {h : smH} {M d q : Nat} {tx : List Nat} {f : Nat → Int32} (a : MObj h M d tx.length q) (b1 : IA h (M + 5) 40 f) (b2 : tx.length ≤ 40) (b3 : ∀ k, nA tx k < 256) (b4 : ∀ k, k < tx.length → f k = nI (nA tx k)) {p : Nat} (hp : p < tx.length) : ∀ (r k : Nat), k + r = tx.length → p < k → sm_E PP X 112 140 [(0, .ref M), (1, .int (nI k)), (2, .int (nI (p + 1)))] [] h = some (some (.int (oI (flt tx r k (some p)))), h) := by
  intro r
  induction r with
  | zero =>
    intro k hk hpk
    rw [b112_140]
    simp only [fO a, sm_gI_s, sm_gR_s, sm_gJ_s, sm_cR_s, sm_al_s, sm_sw_s, sm_tl1, sm_tl0, sm_ap0, sm_ap1, List.getElem?_cons_zero, List.getElem?_cons_succ, nk10, nk11, if_true, eq_self]
    rw [if_pos (nI_le (by omega) (by omega)), b112_173]
    simp only [fO a, sm_gI_s, sm_gR_s, sm_gJ_s, sm_cR_s, sm_al_s, sm_sw_s, sm_tl1, sm_tl0, sm_ap0, sm_ap1, List.getElem?_cons_zero, List.getElem?_cons_succ, nk10, nk11, if_true, eq_self]
    rw [if_neg (nI_nlt (by omega) (by omega))]
    unfold flt
    by_cases h1 : p + 1 = tx.length
    · rw [if_pos (by rw [show k = p + 1 by omega]), if_pos h1, b112_186, b112_192, show k = tx.length by omega]
      rfl
    · rw [if_neg (fun e => h1 (by have := (nI_eq (by omega) (by omega)).mp e; omega)), if_neg h1, b112_192]
      rfl
  | succ r ih =>
    intro k hk hpk
    have hA := b3 k
    have ex : sm_E PP X 112 173 [(0, .ref M), (1, .int (nI k)), (2, .int (nI (p + 1)))] [] h = some (some (.int (nI k)), h) := by
      rw [b112_173]
      simp only [fO a, sm_gI_s, sm_gR_s, sm_gJ_s, sm_cR_s, sm_al_s, sm_sw_s, sm_tl1, sm_tl0, sm_ap0, sm_ap1, List.getElem?_cons_zero, List.getElem?_cons_succ, nk10, nk11, if_true, eq_self]
      rw [if_pos (nI_lt (by omega) (by omega)), b112_186, b112_192]
    rw [b112_140]
    simp only [fO a, sm_gI_s, sm_gR_s, sm_gJ_s, sm_cR_s, sm_al_s, sm_sw_s, sm_tl1, sm_tl0, sm_ap0, sm_ap1, List.getElem?_cons_zero, List.getElem?_cons_succ, nk10, nk11, if_true, eq_self]
    rw [if_neg (nI_ge (by omega) (by omega)), aO b1, ldO (by omega) (by omega), b4 k (by omega), m111 hA]
    simp only [sm_gI_s, sm_gR_s, sm_gJ_s, sm_cR_s, sm_al_s, sm_sw_s, sm_tl1, sm_tl0, sm_ap0, sm_ap1, List.getElem?_cons_zero, List.getElem?_cons_succ, nk10, nk11, if_true, eq_self, b112_157, bI_0, nI_add]
    unfold flt okF
    by_cases h1 : (48 ≤ nA tx k ∧ nA tx k ≤ 57) ∨ nA tx k = 63
    · rw [decide_eq_true h1, if_neg (show ¬ (true = false) by decide)]
      by_cases h2 : k - p ≤ 3
      · rw [if_neg (nI_ge (by omega) (by omega)), show decide (k - p ≤ 3 ∧ (nA tx k = 63 ∨ 48 ≤ nA tx k ∧ nA tx k ≤ 57)) = true from decide_eq_true (by omega), if_neg (by omega)]
        exact ih (k + 1) (by omega) (by omega)
      · rw [if_pos (nI_le (by omega) (by omega)), ex, show decide (k - p ≤ 3 ∧ (nA tx k = 63 ∨ 48 ≤ nA tx k ∧ nA tx k ≤ 57)) = false from decide_eq_false (by omega)]
        rfl
    · rw [decide_eq_false h1, if_pos rfl, ex, show decide (k - p ≤ 3 ∧ (nA tx k = 63 ∨ 48 ≤ nA tx k ∧ nA tx k ≤ 57)) = false from decide_eq_false (by omega)]
      rfl
