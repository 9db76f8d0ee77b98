/-! rows of signs -/
def nA (ws : List Nat) (k : Nat) : Nat := ws.getD k 0
def RowAt (h : smH) (r cap : Nat) (ws : List Nat) : Prop := h.1 r = some (.inr (4, [.ref (r + 1), .int (nI ws.length)])) ∧ (ws.length ≤ cap ∧ cap ≤ 31 ∧ ∀ k, nA ws k < 256) ∧ ∃ f, h.1 (r + 1) = some (.inl (.char, cap, .inl f)) ∧ ∀ k, k < ws.length → f k = nI (nA ws k)
theorem m36 {X : smX} {h : smH} {r cap : Nat} {ws : List Nat} (hr : RowAt h r cap ws) (p : Int32) : sm_C PP X 36 [.ref r, .int p] h = some (some (.int (if 0 ≤ p.toInt ∧ p.toInt < ws.length then nI 1 else nI 0)), h) := by
  obtain ⟨h1, ⟨h2, h3, h4⟩, f, h5, h6⟩ := hr
  simp only [c36, b36_0, b36_25, b36_26, sm_gI_s, sm_gR_s, sm_gJ_s, sm_cR_s, sm_al_s, sm_sw_s, sm_tl1, sm_tl0, sm_ap0, sm_ap1, List.getElem?_cons_zero, List.getElem?_cons_succ, nk10, nk11, if_true, eq_self, fO h1, aO h5, i_lt, i_le, i_0, nI_toInt (show ws.length < 2 ^ 31 by omega), nI_toInt (show cap < 2 ^ 31 by omega)]
  split
  · rw [if_neg (by omega)]
  · split
    · rw [if_neg (by omega)]
    · rw [if_neg (by omega), if_pos (by omega)]
theorem m37 {X : smX} {h : smH} {r cap : Nat} {ws : List Nat} (hr : RowAt h r cap ws) (p : Int32) : sm_C PP X 37 [.ref r, .int p] h = some (some (.int (if 0 ≤ p.toInt ∧ p.toInt < ws.length then nI (nA ws p.toInt.toNat) else nI 0)), h) := by
  obtain ⟨h1, ⟨h2, h3, h4⟩, f, h5, h6⟩ := id hr
  simp only [c37, b37_0, b37_5, b37_18, sm_gI_s, sm_gR_s, sm_gJ_s, sm_cR_s, sm_al_s, sm_sw_s, sm_tl1, sm_tl0, sm_ap0, sm_ap1, List.getElem?_cons_zero, List.getElem?_cons_succ, nk10, nk11, if_true, eq_self, vO h1, m36 hr, fO h1, aO h5]
  by_cases hc : 0 ≤ p.toInt ∧ p.toInt < ws.length
  · rw [if_pos hc, if_neg (by decide), if_pos hc]
    obtain ⟨k, hk, rfl⟩ : ∃ k : Nat, k < 2 ^ 31 ∧ p = nI k := by
      rcases i_cases p with h | h
      · omega
      · exact h
    rw [nI_toInt hk] at hc ⊢
    rw [ldO (by omega) (by omega), h6 k (by omega), if_pos (nk2 (by have := h4 k; omega))]
    rfl
  · rw [if_neg hc, if_pos (by decide), if_neg hc, if_pos (nk2 (by omega))]
