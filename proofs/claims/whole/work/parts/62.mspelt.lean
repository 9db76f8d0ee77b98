/-! spell of the reference -/
def spA (n : Nat) : List Nat := if n < 100 then [] else (if n % 100 = 0 then sy (sy [] (n / 100)) 28 else sy (sy (sy [] (n / 100)) 28) 29)
def spC (n : Nat) : List Nat := if n < 100 ∨ 0 < n % 100 then sy (spA n) (if n % 100 < 20 then n % 100 else 18 + n % 100 / 10) else spA n
def spM (n : Nat) : List Nat := if 20 ≤ n % 100 ∧ 0 < n % 100 % 10 then sy (spC n) (n % 100 % 10) else spC n
theorem spM_ok : (List.range 1000).all (fun n => decide (spM n = spN n) && (decide ((spC n).length ≤ 31) && (decide ((spA n).length ≤ 31) && decide ((sy (sy [] (n / 100)) 28).length ≤ 31 ∨ n < 100)))) = true := by decide +kernel
theorem wd_le : (List.range 30).all (fun w => decide ((wd w).length ≤ 10)) = true := by decide +kernel
theorem spM_e {n : Nat} (hn : n < 1000) : spM n = spN n ∧ (spC n).length ≤ 31 ∧ (spA n).length ≤ 31 ∧ ((sy (sy [] (n / 100)) 28).length ≤ 31 ∨ n < 100) := by
  have := List.all_eq_true.mp spM_ok n (List.mem_range.mpr hn)
  simp only [Bool.and_eq_true, decide_eq_true_eq] at this
  exact this
theorem m129_71 {X : smX} {h : smH} {M d l n : Nat} (r : SpAt h M d l (spC n)) (hn : n < 1000) : ∃ h', sm_E PP X 129 71 [(0, .ref M), (2, .int (nI (n % 100)))] [] h = some (none, h') ∧ SpAt h' M d l (spN n) ∧ Fm h h' M := by
  obtain ⟨s1, s2, s3, -⟩ := spM_e hn
  have hl := spN_len hn
  have n10 : ¬ (nI 10 : Int32) = 0 := by decide
  rw [← s1] at hl ⊢
  rw [b129_71]
  by_cases h1 : n % 100 < 20
  · have e : spM n = spC n := by unfold spM; rw [if_neg (by omega)]
    rw [if_pos (nI_lt h1 (by omega)), b129_92, e]
    exact ⟨h, rfl, r, Fm.rf⟩
  · rw [if_neg (nI_nlt (by omega) (by omega)), if_neg n10, pk_rem (show n % 100 < 2 ^ 31 by omega) (show 0 < 10 by omega) (show 10 < 2 ^ 31 by omega)]
    by_cases h2 : n % 100 % 10 = 0
    · have e : spM n = spC n := by unfold spM; rw [if_neg (by omega)]
      rw [if_pos (show nI (n % 100 % 10) ≤ 0 by rw [h2]; decide), b129_92, e]
      exact ⟨h, rfl, r, Fm.rf⟩
    · have e : spM n = sy (spC n) (n % 100 % 10) := by unfold spM; rw [if_pos (by omega)]
      rw [e] at hl ⊢
      obtain ⟨h', e2, q2, k2⟩ := m128 (X := X) r (show n % 100 % 10 < 30 by omega) (by omega)
      refine ⟨h', ?_, q2, k2⟩
      rw [if_neg (nI_nle (show 0 < n % 100 % 10 by omega) (by omega)), if_neg n10, vO r.1, e2]
      simp only [sm_gI_s, sm_gR_s, sm_gJ_s, sm_cR_s, sm_al_s, sm_sw_s, sm_tl1, sm_tl0, sm_ap0, sm_ap1, List.getElem?_cons_zero, List.getElem?_cons_succ, nk10, nk11, if_true, eq_self, b129_92]
theorem m129_40 {X : smX} {h : smH} {M d l n : Nat} (r : SpAt h M d l (spA n)) (hn : n < 1000) : ∃ h', sm_E PP X 129 40 [(0, .ref M), (1, .int (nI n)), (2, .int (nI (n % 100)))] [] h = some (none, h') ∧ SpAt h' M d l (spN n) ∧ Fm h h' M := by
  obtain ⟨s1, s2, s3, -⟩ := spM_e hn
  have fin : ∀ w, w < 30 → spC n = sy (spA n) w → ∃ h', sm_E PP X 129 68 [(0, .ref M), (2, .int (nI (n % 100)))] [.int (nI w), .ref M] h = some (none, h') ∧ SpAt h' M d l (spN n) ∧ Fm h h' M := fun w hw e => by
    rw [e] at s2
    obtain ⟨h1, e1, q1, k1⟩ := m128 (X := X) r hw (by omega)
    rw [← e] at q1
    obtain ⟨h2, e2, q2, k2⟩ := m129_71 (X := X) q1 hn
    refine ⟨h2, ?_, q2, k1.tr k2⟩
    rw [b129_68, vO r.1, e1]
    simp only [sm_gI_s, sm_gR_s, sm_gJ_s, sm_cR_s, sm_al_s, sm_sw_s, sm_tl1, sm_tl0, sm_ap0, sm_ap1, List.getElem?_cons_zero, List.getElem?_cons_succ, nk10, nk11, if_true, eq_self, e2]
  have to50 : (n < 100 ∨ 0 < n % 100) → ∃ h', sm_E PP X 129 50 [(0, .ref M), (2, .int (nI (n % 100)))] [] h = some (none, h') ∧ SpAt h' M d l (spN n) ∧ Fm h h' M := fun hc => by
    rw [b129_50]
    by_cases h1 : n % 100 < 20
    · rw [if_neg (nI_ge h1 (by omega))]
      exact fin _ (by omega) (by unfold spC; rw [if_pos hc, if_pos h1])
    · rw [if_pos (nI_le (by omega) (by omega)), if_neg (show ¬ (nI 10 : Int32) = 0 by decide), pk_div (show n % 100 < 2 ^ 31 by omega) (show 0 < 10 by omega) (show 10 < 2 ^ 31 by omega), nI_add]
      exact fin _ (by omega) (by unfold spC; rw [if_pos hc, if_neg h1])
  rw [b129_40]
  by_cases h1 : n < 100
  · rw [if_pos (nI_lt h1 (by omega))]
    exact to50 (Or.inl h1)
  · rw [if_neg (nI_nlt (by omega) (by omega))]
    by_cases h2 : n % 100 = 0
    · have e : spC n = spA n := by unfold spC; rw [if_neg (by omega)]
      rw [if_pos (show nI (n % 100) ≤ 0 by rw [h2]; decide)]
      exact m129_71 (by rw [e]; exact r) hn
    · rw [if_neg (nI_nle (show 0 < n % 100 by omega) (by omega))]
      exact to50 (Or.inr (by omega))
/-- spell -/
theorem m129 {X : smX} {h : smH} {M d l q n : Nat} {g : Nat → Int32} (a : MObj h M d l q) (g1 : IA h (M + 6) 40 g) (hn : n < 1000) : ∃ h', sm_C PP X 129 [.ref M, .int (nI n)] h = some (none, h') ∧ SpAt h' M d l (spN n) ∧ Fm h h' M := by
  obtain ⟨s1, s2, s3, s4⟩ := spM_e hn
  have n100 : ¬ (nI 100 : Int32) = 0 := by decide
  have k0 : Fm h (sm_w h M (.inr (8, mo M d l 0))) M := ⟨rfl, fun a p _ => w_ne p⟩
  have r0 : SpAt (sm_w h M (.inr (8, mo M d l 0))) M d l [] := ⟨w_eq, g, (w_ne (by omega)).trans g1, fun k hk => absurd hk (Nat.not_lt_zero k)⟩
  rw [c129, b129_0, pMq a, if_neg n100, pk_rem (show n < 2 ^ 31 by omega) (show 0 < 100 by omega) (show 100 < 2 ^ 31 by omega)]
  by_cases h1 : n < 100
  · have e : spA n = [] := by unfold spA; rw [if_pos h1]
    have r1 : SpAt (sm_w h M (.inr (8, mo M d l 0))) M d l (spA n) := by rw [e]; exact r0
    obtain ⟨h2, e2, q2, k2⟩ := m129_40 (X := X) r1 hn
    rw [if_pos (nI_lt h1 (by omega))]
    exact ⟨h2, e2, q2, k0.tr k2⟩
  · have s5 := s4.resolve_right h1
    have w1 : (sy [] (n / 100)).length ≤ 10 := of_decide_eq_true (List.all_eq_true.mp wd_le (n / 100) (List.mem_range.mpr (by omega)))
    obtain ⟨ha, ea, qa, ka⟩ := m128 (X := X) r0 (show n / 100 < 30 by omega) (by omega)
    obtain ⟨hb, eb, qb, kb⟩ := m128 (X := X) qa (show 28 < 30 by omega) (by omega)
    rw [if_neg (nI_nlt (by omega) (by omega)), if_neg n100, pk_div (show n < 2 ^ 31 by omega) (show 0 < 100 by omega) (show 100 < 2 ^ 31 by omega), vO r0.1, ea]
    simp only [sm_gI_s, sm_gR_s, sm_gJ_s, sm_cR_s, sm_al_s, sm_sw_s, sm_tl1, sm_tl0, sm_ap0, sm_ap1, List.getElem?_cons_zero, List.getElem?_cons_succ, nk10, nk11, if_true, eq_self, b129_24, vO qa.1, eb, b129_30, vO qb.1]
    by_cases h2 : n % 100 = 0
    · have e : spA n = sy (sy [] (n / 100)) 28 := by unfold spA; rw [if_neg h1, if_pos h2]
      rw [← e] at qb
      obtain ⟨hc, ec, qc, kc⟩ := m129_40 (X := X) qb hn
      refine ⟨hc, ?_, qc, ((k0.tr ka).tr kb).tr kc⟩
      rw [if_pos (show nI (n % 100) ≤ 0 by rw [h2]; decide), ec]
    · have e : spA n = sy (sy (sy [] (n / 100)) 28) 29 := by unfold spA; rw [if_neg h1, if_neg h2]
      rw [e] at s3
      obtain ⟨hc, ec, qc, kc⟩ := m128 (X := X) qb (show 29 < 30 by omega) (by omega)
      rw [← e] at qc
      obtain ⟨hd, ed, qd, kd⟩ := m129_40 (X := X) qc hn
      refine ⟨hd, ?_, qd, (((k0.tr ka).tr kb).tr kc).tr kd⟩
      rw [if_neg (nI_nle (show 0 < n % 100 by omega) (by omega)), ec]
      simp only [sm_gI_s, sm_gR_s, sm_gJ_s, sm_cR_s, sm_al_s, sm_sw_s, sm_tl1, sm_tl0, sm_ap0, sm_ap1, List.getElem?_cons_zero, List.getElem?_cons_succ, nk10, nk11, if_true, eq_self, ed]
