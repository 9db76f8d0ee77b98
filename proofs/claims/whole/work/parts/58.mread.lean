/-! readText of the reference -/
theorem m110 {X : smX} {h : smH} {c : Nat} (hc : c < 256) : sm_C PP X 110 [.int (nI c)] h = some (some (.int (bI (decide ((97 ≤ c ∧ c ≤ 122) ∨ c = 63)))), h) := by
  rw [c110, b110_0, m107]
  simp only [sm_gI_s, sm_gR_s, sm_gJ_s, sm_cR_s, sm_al_s, sm_sw_s, sm_tl1, sm_tl0, sm_ap0, sm_ap1, List.getElem?_cons_zero, List.getElem?_cons_succ, nk10, nk11, if_true, eq_self, b110_8, bI_0, b110_17, b110_22, nI_toInt (show c < 2 ^ 31 by omega), show (nI 97).toInt = 97 by decide, show (nI 122).toInt = 122 by decide, nI_eq (show c < 2 ^ 31 by omega) (show 63 < 2 ^ 31 by omega)]
  by_cases h1 : 97 ≤ c ∧ c ≤ 122
  · rw [show decide ((97 : Int) ≤ (c : Int) ∧ (c : Int) ≤ 122) = true from decide_eq_true (by omega), if_neg (show ¬ (true = false) by decide), show decide ((97 ≤ c ∧ c ≤ 122) ∨ c = 63) = true from decide_eq_true (Or.inl h1)]
    rfl
  · rw [show decide ((97 : Int) ≤ (c : Int) ∧ (c : Int) ≤ 122) = false from decide_eq_false (by omega), if_pos rfl]
    by_cases h2 : c = 63
    · rw [if_pos h2, show decide ((97 ≤ c ∧ c ≤ 122) ∨ c = 63) = true from decide_eq_true (Or.inr h2)]
      rfl
    · rw [if_neg h2, show decide ((97 ≤ c ∧ c ≤ 122) ∨ c = 63) = false from decide_eq_false (by omega)]
      rfl
theorem m111 {X : smX} {h : smH} {c : Nat} (hc : c < 256) : sm_C PP X 111 [.int (nI c)] h = some (some (.int (bI (decide ((48 ≤ c ∧ c ≤ 57) ∨ c = 63)))), h) := by
  rw [c111, b111_0, m107]
  simp only [sm_gI_s, sm_gR_s, sm_gJ_s, sm_cR_s, sm_al_s, sm_sw_s, sm_tl1, sm_tl0, sm_ap0, sm_ap1, List.getElem?_cons_zero, List.getElem?_cons_succ, nk10, nk11, if_true, eq_self, b111_8, bI_0, b111_17, b111_22, nI_toInt (show c < 2 ^ 31 by omega), show (nI 48).toInt = 48 by decide, show (nI 57).toInt = 57 by decide, nI_eq (show c < 2 ^ 31 by omega) (show 63 < 2 ^ 31 by omega)]
  by_cases h1 : 48 ≤ c ∧ c ≤ 57
  · rw [show decide ((48 : Int) ≤ (c : Int) ∧ (c : Int) ≤ 57) = true from decide_eq_true (by omega), if_neg (show ¬ (true = false) by decide), show decide ((48 ≤ c ∧ c ≤ 57) ∨ c = 63) = true from decide_eq_true (Or.inl h1)]
    rfl
  · rw [show decide ((48 : Int) ≤ (c : Int) ∧ (c : Int) ≤ 57) = false from decide_eq_false (by omega), if_pos rfl]
    by_cases h2 : c = 63
    · rw [if_pos h2, show decide ((48 ≤ c ∧ c ≤ 57) ∨ c = 63) = true from decide_eq_true (Or.inr h2)]
      rfl
    · rw [if_neg h2, show decide ((48 ≤ c ∧ c ≤ 57) ∨ c = 63) = false from decide_eq_false (by omega)]
      rfl
theorem m112_f {X : smX} {h : smH} {M d q : Nat} {tx : List Nat} {f : Nat → Int32} (a : MObj h M d tx.length q) (b1 : IA h (M + 5) 40 f) (b2 : tx.length ≤ 40) (b3 : ∀ k, nA tx k < 256) (b4 : ∀ k, k < tx.length → f k = nI (nA tx k)) {p : Nat} (hp : p < tx.length) : ∀ (r k : Nat), k + r = tx.length → p < k → sm_E PP X 112 140 [(0, .ref M), (1, .int (nI k)), (2, .int (nI (p + 1)))] [] h = some (some (.int (oI (flt tx r k (some p)))), h) := by
  intro r
  induction r with
  | zero =>
    intro k hk hpk
    rw [b112_140]
    simp only [fO a, sm_gI_s, sm_gR_s, sm_gJ_s, sm_cR_s, sm_al_s, sm_sw_s, sm_tl1, sm_tl0, sm_ap0, sm_ap1, List.getElem?_cons_zero, List.getElem?_cons_succ, nk10, nk11, if_true, eq_self]
    rw [if_pos (nI_le (by omega) (by omega)), b112_173]
    simp only [fO a, sm_gI_s, sm_gR_s, sm_gJ_s, sm_cR_s, sm_al_s, sm_sw_s, sm_tl1, sm_tl0, sm_ap0, sm_ap1, List.getElem?_cons_zero, List.getElem?_cons_succ, nk10, nk11, if_true, eq_self]
    rw [if_neg (nI_nlt (by omega) (by omega))]
    unfold flt
    by_cases h1 : p + 1 = tx.length
    · rw [if_pos (by rw [show k = p + 1 by omega]), if_pos h1, b112_186, b112_192, show k = tx.length by omega]
      rfl
    · rw [if_neg (fun e => h1 (by have := (nI_eq (by omega) (by omega)).mp e; omega)), if_neg h1, b112_192]
      rfl
  | succ r ih =>
    intro k hk hpk
    have hA := b3 k
    have ex : sm_E PP X 112 173 [(0, .ref M), (1, .int (nI k)), (2, .int (nI (p + 1)))] [] h = some (some (.int (nI k)), h) := by
      rw [b112_173]
      simp only [fO a, sm_gI_s, sm_gR_s, sm_gJ_s, sm_cR_s, sm_al_s, sm_sw_s, sm_tl1, sm_tl0, sm_ap0, sm_ap1, List.getElem?_cons_zero, List.getElem?_cons_succ, nk10, nk11, if_true, eq_self]
      rw [if_pos (nI_lt (by omega) (by omega)), b112_186, b112_192]
    rw [b112_140]
    simp only [fO a, sm_gI_s, sm_gR_s, sm_gJ_s, sm_cR_s, sm_al_s, sm_sw_s, sm_tl1, sm_tl0, sm_ap0, sm_ap1, List.getElem?_cons_zero, List.getElem?_cons_succ, nk10, nk11, if_true, eq_self]
    rw [if_neg (nI_ge (by omega) (by omega)), aO b1, ldO (by omega) (by omega), b4 k (by omega), m111 hA]
    simp only [sm_gI_s, sm_gR_s, sm_gJ_s, sm_cR_s, sm_al_s, sm_sw_s, sm_tl1, sm_tl0, sm_ap0, sm_ap1, List.getElem?_cons_zero, List.getElem?_cons_succ, nk10, nk11, if_true, eq_self, b112_157, bI_0, nI_add]
    unfold flt okF
    by_cases h1 : (48 ≤ nA tx k ∧ nA tx k ≤ 57) ∨ nA tx k = 63
    · rw [decide_eq_true h1, if_neg (show ¬ (true = false) by decide)]
      by_cases h2 : k - p ≤ 3
      · rw [if_neg (nI_ge (by omega) (by omega)), show decide (k - p ≤ 3 ∧ (nA tx k = 63 ∨ 48 ≤ nA tx k ∧ nA tx k ≤ 57)) = true from decide_eq_true (by omega), if_neg (by omega)]
        exact ih (k + 1) (by omega) (by omega)
      · rw [if_pos (nI_le (by omega) (by omega)), ex, show decide (k - p ≤ 3 ∧ (nA tx k = 63 ∨ 48 ≤ nA tx k ∧ nA tx k ≤ 57)) = false from decide_eq_false (by omega)]
        rfl
    · rw [decide_eq_false h1, if_pos rfl, ex, show decide (k - p ≤ 3 ∧ (nA tx k = 63 ∨ 48 ≤ nA tx k ∧ nA tx k ≤ 57)) = false from decide_eq_false (by omega)]
      rfl
theorem m112_w {X : smX} {h : smH} {M d q : Nat} {tx : List Nat} {f : Nat → Int32} (a : MObj h M d tx.length q) (b1 : IA h (M + 5) 40 f) (b2 : tx.length ≤ 40) (b3 : ∀ k, nA tx k < 256) (b4 : ∀ k, k < tx.length → f k = nI (nA tx k)) : ∀ (r k : Nat), k + r = tx.length → k ≤ 31 → sm_E PP X 112 2 [(0, .ref M), (1, .int (nI k))] [] h = some (some (.int (oI (flt tx r k none))), h) := by
  intro r
  induction r with
  | zero =>
    intro k hk h31
    rw [b112_2]
    simp only [fO a, sm_gI_s, sm_gR_s, sm_gJ_s, sm_cR_s, sm_al_s, sm_sw_s, sm_tl1, sm_tl0, sm_ap0, sm_ap1, List.getElem?_cons_zero, List.getElem?_cons_succ, nk10, nk11, if_true, eq_self]
    rw [if_pos (nI_le (by omega) (by omega)), b112_108]
    simp only [fO a, sm_gI_s, sm_gR_s, sm_gJ_s, sm_cR_s, sm_al_s, sm_sw_s, sm_tl1, sm_tl0, sm_ap0, sm_ap1, List.getElem?_cons_zero, List.getElem?_cons_succ, nk10, nk11, if_true, eq_self]
    rw [if_pos (by rw [show k = tx.length by omega]), b112_131, show k = tx.length by omega]
    rfl
  | succ r ih =>
    intro k hk h31
    have hA := b3 k
    -- out of the loop at k
    have ex : nA tx k ≠ 61 → sm_E PP X 112 108 [(0, .ref M), (1, .int (nI k))] [] h = some (some (.int (nI k)), h) := fun h61 => by
      rw [b112_108]
      simp only [fO a, sm_gI_s, sm_gR_s, sm_gJ_s, sm_cR_s, sm_al_s, sm_sw_s, sm_tl1, sm_tl0, sm_ap0, sm_ap1, List.getElem?_cons_zero, List.getElem?_cons_succ, nk10, nk11, if_true, eq_self]
      rw [if_neg (fun e => by have := (nI_eq (by omega) (by omega)).mp e; omega), aO b1, ldO (by omega) (by omega), b4 k (by omega), if_neg (fun e => h61 ((nI_eq (by omega) (by omega)).mp e)), b112_131]
    have st100 : sm_E PP X 112 100 [(1, .int (nI k))] [] h = some (some (.int (nI k)), h) := b112_100 ..
    have go : sm_E PP X 112 102 [(0, .ref M), (1, .int (nI k))] [] h = sm_E PP X 112 2 [(0, .ref M), (1, .int (nI (k + 1)))] [] h := by rw [b112_102, nI_add]
    have hin : sm_E PP X 112 2 [(0, .ref M), (1, .int (nI k))] [] h = if (97 ≤ nA tx k ∧ nA tx k ≤ 122) ∨ nA tx k = 63 ∨ nA tx k = 32 then sm_E PP X 112 33 [(0, .ref M), (1, .int (nI k))] [] h else sm_E PP X 112 108 [(0, .ref M), (1, .int (nI k))] [] h := by
      rw [b112_2]
      simp only [fO a, sm_gI_s, sm_gR_s, sm_gJ_s, sm_cR_s, sm_al_s, sm_sw_s, sm_tl1, sm_tl0, sm_ap0, sm_ap1, List.getElem?_cons_zero, List.getElem?_cons_succ, nk10, nk11, if_true, eq_self]
      rw [if_neg (nI_ge (by omega) (by omega)), aO b1, ldO (by omega) (by omega), b4 k (by omega), m110 hA]
      simp only [sm_gI_s, sm_gR_s, sm_gJ_s, sm_cR_s, sm_al_s, sm_sw_s, sm_tl1, sm_tl0, sm_ap0, sm_ap1, List.getElem?_cons_zero, List.getElem?_cons_succ, nk10, nk11, if_true, eq_self, b112_19, bI_0, fO a]
      by_cases h1 : (97 ≤ nA tx k ∧ nA tx k ≤ 122) ∨ nA tx k = 63
      · rw [decide_eq_true h1, if_neg (show ¬ (true = false) by decide), if_pos (by omega)]
      · rw [decide_eq_false h1, if_pos rfl, aO b1, ldO (by omega) (by omega), b4 k (by omega)]
        simp only [nI_eq (show nA tx k < 2 ^ 31 by omega) (show 32 < 2 ^ 31 by omega)]
        by_cases h2 : nA tx k = 32
        · rw [if_pos h2, if_pos (by omega)]
        · rw [if_neg h2, if_neg (by omega)]
    have h33 : ∃ s : Bool, (s = true ↔ (0 < k ∧ nA tx (k - 1) ≠ 32)) ∧ sm_E PP X 112 33 [(0, .ref M), (1, .int (nI k))] [] h = sm_E PP X 112 55 [(0, .ref M), (1, .int (nI k))] [.int (bI s)] h := by
      rw [b112_33]
      by_cases h0 : k = 0
      · refine ⟨false, ⟨fun q => (by cases q), fun q => (by omega)⟩, ?_⟩
        subst h0
        rw [if_pos (by decide), b112_54]
        rfl
      · have hA1 := b3 (k - 1)
        rw [if_neg (nI_nle (by omega) (by omega)), pk_sub (by omega)]
        simp only [fO a, sm_gI_s, sm_gR_s, sm_gJ_s, sm_cR_s, sm_al_s, sm_sw_s, sm_tl1, sm_tl0, sm_ap0, sm_ap1, List.getElem?_cons_zero, List.getElem?_cons_succ, nk10, nk11, if_true, eq_self]
        rw [aO b1, ldO (by omega) (by omega), b4 (k - 1) (by omega)]
        simp only [nI_eq (show nA tx (k - 1) < 2 ^ 31 by omega) (show 32 < 2 ^ 31 by omega)]
        by_cases h1 : nA tx (k - 1) = 32
        · exact ⟨false, ⟨fun q => (by cases q), fun q => absurd h1 q.2⟩, by rw [if_pos h1, b112_54]; rfl⟩
        · exact ⟨true, ⟨fun _ => ⟨by omega, h1⟩, fun _ => rfl⟩, by rw [if_neg h1]; rfl⟩
    rw [hin]
    unfold flt
    by_cases hc : (97 ≤ nA tx k ∧ nA tx k ≤ 122) ∨ nA tx k = 63 ∨ nA tx k = 32
    · obtain ⟨s, s1, s2⟩ := h33
      rw [if_pos hc, s2, b112_55, nI_add]
      simp only [fO a, sm_gI_s, sm_gR_s, sm_gJ_s, sm_cR_s, sm_al_s, sm_sw_s, sm_tl1, sm_tl0, sm_ap0, sm_ap1, List.getElem?_cons_zero, List.getElem?_cons_succ, nk10, nk11, if_true, eq_self, bI_0]
      have n61 : nA tx k ≠ 61 := by omega
      unfold okW
      rw [if_neg n61]
      by_cases hk31 : k = 31
      · rw [if_pos (by rw [hk31]), if_neg (by omega), st100]
        rfl
      · rw [if_neg (fun e => hk31 ((nI_eq (by omega) (by omega)).mp e)), if_pos (show k < 31 by omega), aO b1, ldO (by omega) (by omega), b4 k (by omega)]
        simp only [nI_eq (show nA tx k < 2 ^ 31 by omega) (show 32 < 2 ^ 31 by omega)]
        by_cases h32 : nA tx k = 32
        · rw [if_pos h32, if_pos h32]
          cases s with
          | false =>
            have hn : ¬ (0 < k ∧ nA tx (k - 1) ≠ 32 ∧ nA tx (k + 1) ≠ 61) := fun q => by
              have := s1.mpr ⟨q.1, q.2.1⟩
              cases this
            rw [if_pos rfl, st100, decide_eq_false hn]
            rfl
          | true =>
            have hs := s1.mp rfl
            rw [if_neg (show ¬ (true = false) by decide)]
            by_cases hr : k + 1 < tx.length
            · have hA1 := b3 (k + 1)
              rw [if_neg (nI_ge hr (by omega)), ldO (by omega) (by omega), b4 (k + 1) hr]
              simp only [nI_eq (show nA tx (k + 1) < 2 ^ 31 by omega) (show 61 < 2 ^ 31 by omega)]
              by_cases h61 : nA tx (k + 1) = 61
              · rw [if_pos h61, st100, decide_eq_false (fun q => q.2.2 h61)]
                rfl
              · rw [if_neg h61, go, decide_eq_true ⟨hs.1, hs.2, h61⟩, if_neg n61]
                exact ih (k + 1) (by omega) (by omega)
            · rw [if_pos (nI_le (by omega) (by omega)), go, decide_eq_true ⟨hs.1, hs.2, by rw [nA_out (by omega)]; omega⟩, if_neg n61]
              exact ih (k + 1) (by omega) (by omega)
        · rw [if_neg h32, if_neg h32, go, show decide (nA tx k = 63 ∨ (97 ≤ nA tx k ∧ nA tx k ≤ 122)) = true from decide_eq_true (by omega), if_neg n61]
          exact ih (k + 1) (by omega) (by omega)
    · rw [if_neg hc]
      unfold okW
      by_cases h61 : nA tx k = 61
      · rw [if_pos h61, if_pos h61, b112_108]
        simp only [fO a, sm_gI_s, sm_gR_s, sm_gJ_s, sm_cR_s, sm_al_s, sm_sw_s, sm_tl1, sm_tl0, sm_ap0, sm_ap1, List.getElem?_cons_zero, List.getElem?_cons_succ, nk10, nk11, if_true, eq_self]
        rw [if_neg (fun e => by have := (nI_eq (by omega) (by omega)).mp e; omega), aO b1, ldO (by omega) (by omega), b4 k (by omega), if_pos (by rw [h61]), nI_add]
        by_cases h0 : k = 0
        · subst h0
          rw [if_pos (by decide), b112_131, decide_eq_false (by omega)]
          rfl
        · rw [if_neg (nI_ne0 (by omega) (by omega)), decide_eq_true (by omega)]
          exact m112_f a b1 b2 b3 b4 (by omega) r (k + 1) (by omega) (by omega)
      · rw [ex h61, if_neg h61]
        by_cases hk31 : k < 31
        · rw [if_pos hk31, if_neg (by omega), show decide (nA tx k = 63 ∨ (97 ≤ nA tx k ∧ nA tx k ≤ 122)) = false from decide_eq_false (by omega)]
          rfl
        · rw [if_neg hk31]
          rfl
theorem m112 {X : smX} {h : smH} {M : Nat} {st : St} (r : RepM h M st) : sm_C PP X 112 [.ref M] h = some (some (.int (oI (flt st.1 st.1.length 0 none))), h) := by
  obtain ⟨⟨q, a⟩, ⟨f, b1, b2, b3, b4⟩, -⟩ := r
  rw [c112, b112_0]
  exact m112_w a b1 b2 b3 b4 st.1.length 0 (by omega) (by omega)
