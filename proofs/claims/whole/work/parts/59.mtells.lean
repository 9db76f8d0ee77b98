/-! tells of the reference -/
theorem m115_q {X : smX} {h : smH} {M d l q x : Nat} {tx : List Nat} {f : Nat → Int32} (a : MObj h M d l q) (b1 : IA h (M + 5) 40 f) (b2 : tx.length ≤ 40) (b3 : ∀ k, nA tx k < 256) (b4 : ∀ k, k < tx.length → f k = nI (nA tx k)) {p : Nat} (hp : p < tx.length) (h61 : nA tx p = 61) (hn : ∀ j, j < p → nA tx j ≠ 61) : ∀ (r k : Nat), k + r = p → sm_E PP X 115 48 [(0, .ref M), (2, .int (nI x)), (3, .int (nI k))] [] h = sm_E PP X 115 48 [(0, .ref M), (2, .int (nI x)), (3, .int (nI p))] [] h := by
  intro r
  induction r with
  | zero => intro k hk; rw [show k = p by omega]
  | succ r ih =>
    intro k hk
    have hA := b3 k
    rw [← ih (k + 1) (by omega), b115_48]
    simp only [fO a, sm_gI_s, sm_gR_s, sm_gJ_s, sm_cR_s, sm_al_s, sm_sw_s, sm_tl1, sm_tl0, sm_ap0, sm_ap1, List.getElem?_cons_zero, List.getElem?_cons_succ, nk10, nk11, if_true, eq_self]
    rw [aO b1, ldO (by omega) (by omega), b4 k (by omega), if_neg (fun e => hn k (by omega) ((nI_eq (by omega) (by omega)).mp e)), nI_add]
theorem enc_new {f tf : Nat → Int32} {p : Nat} {tx : List Nat} {s : Sh} (x : Enc f 0 s) (hn : s.1.length < 6) (t3 : ∀ k, nA tx k < 256) (t4 : ∀ k, k < tx.length → tf k = nI (nA tx k)) (hE : eqp tx tx.length 0 = p) (h31 : p ≤ 31) (hl : tx.length - (p + 1) ≤ 3) (hp : p < tx.length) (hd : ∀ j, p < j → j < tx.length → nA tx j = 63 ∨ (48 ≤ nA tx j ∧ nA tx j ≤ 57)) : Enc (upd (mv tf (p + 1) (upd (mv tf 0 (upd f (3 + 36 * s.1.length) (nI p)) (3 + 36 * s.1.length + 1) p) (3 + 36 * s.1.length + 32) (nI (tx.length - p - 1))) (3 + 36 * s.1.length + 33) (tx.length - p - 1)) 0 (nI (s.1.length + 1))) 0 (s.1 ++ [enT tx], s.2) := by
  obtain ⟨x1, x2, x3, x4, x5⟩ := x
  have hlen : (s.1 ++ [enT tx]).length = s.1.length + 1 := List.length_append
  have low : ∀ y, 0 < y → y < 3 + 36 * s.1.length → (upd (mv tf (p + 1) (upd (mv tf 0 (upd f (3 + 36 * s.1.length) (nI p)) (3 + 36 * s.1.length + 1) p) (3 + 36 * s.1.length + 32) (nI (tx.length - p - 1))) (3 + 36 * s.1.length + 33) (tx.length - p - 1)) 0 (nI (s.1.length + 1))) y = f y := fun y h1 h2 => by
    rw [pk_un (by omega), mv_out (by omega), pk_un (by omega), mv_out (by omega), pk_un (by omega)]
  refine ⟨by rw [pk_us, hlen], (low 1 (by omega) (by omega)).trans x2, (low 2 (by omega) (by omega)).trans x3, ⟨by rw [hlen]; omega, x4.2⟩, fun i hi => ?_⟩
  rw [hlen] at hi
  have hen : en (s.1 ++ [enT tx], s.2) i = if i < s.1.length then en s i else if i = s.1.length then enT tx else ([], []) := en_app (a := s.2.1) (b := s.2.2)
  rw [hen]
  by_cases h0 : i < s.1.length
  · rw [if_pos h0]
    exact ⟨(x5 i h0).1.cp (x5 i h0).2 (fun k hk => low _ (by omega) (by omega)), (x5 i h0).2⟩
  · have hi2 : i = s.1.length := by omega
    rw [if_neg h0, if_pos hi2, hi2]
    unfold enT
    rw [hE, Nat.sub_zero]
    have l1 : ((tx.drop 0).take p).length = p := by rw [List.length_take, List.length_drop]; omega
    have l2 : ((tx.drop (p + 1)).take (tx.length - (p + 1))).length = tx.length - (p + 1) := by rw [List.length_take, List.length_drop]; omega
    have n1 : ∀ k, k < p → nA ((tx.drop 0).take p) k = nA tx k := fun k hk => by rw [nA_take hk, Nat.zero_add]
    have n2 : ∀ k, k < tx.length - (p + 1) → nA ((tx.drop (p + 1)).take (tx.length - (p + 1))) k = nA tx (p + 1 + k) := fun k hk => nA_take hk
    refine ⟨⟨?_, fun k hk => ?_, ?_, fun k hk => ?_⟩, by rw [l1]; exact h31, by rw [l2]; exact hl, fun k => ?_, fun k => ?_, fun k hk => ?_⟩
    · rw [l1, Nat.zero_add, pk_un (by omega), mv_out (by omega), pk_un (by omega), mv_out (by omega), pk_us]
    · have hk2 : k < p := by rw [← l1]; exact hk
      show _ = nI (nA ((tx.drop 0).take p) k)
      rw [n1 k hk2, Nat.zero_add, pk_un (by omega), mv_out (by omega), pk_un (by omega), mv_in hk2, Nat.zero_add, t4 k (by omega)]
    · show _ = nI ((tx.drop (p + 1)).take (tx.length - (p + 1))).length
      rw [l2, Nat.zero_add, pk_un (by omega), mv_out (by omega), pk_us, Nat.sub_sub]
    · have hk2 : k < tx.length - (p + 1) := by rw [← l2]; exact hk
      show _ = nI (nA ((tx.drop (p + 1)).take (tx.length - (p + 1))) k)
      rw [n2 k hk2, Nat.zero_add, pk_un (by omega), mv_in (by omega), t4 _ (by omega)]
    · show nA ((tx.drop 0).take p) k < 256
      by_cases h1 : k < p
      · rw [n1 k h1]; exact t3 k
      · rw [nA_out (by omega)]; omega
    · show nA ((tx.drop (p + 1)).take (tx.length - (p + 1))) k < 256
      by_cases h1 : k < tx.length - (p + 1)
      · rw [n2 k h1]; exact t3 _
      · rw [nA_out (by omega)]; omega
    · have hk2 : k < tx.length - (p + 1) := by rw [← l2]; exact hk
      show nA ((tx.drop (p + 1)).take (tx.length - (p + 1))) k = 63 ∨ _ ∧ nA ((tx.drop (p + 1)).take (tx.length - (p + 1))) k ≤ 57
      rw [n2 k hk2]
      exact hd _ (by omega) (by omega)
