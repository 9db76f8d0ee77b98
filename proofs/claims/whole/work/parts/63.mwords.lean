/-! DOUBT by WORDS of the reference -/
theorem RepM.sp {h h' : smH} {M : Nat} {st : St} {sp} (r : RepM h M st) (k : Fm h h' M) (q : SpAt h' M st.2.2.1.length st.1.length sp) : RepM h' M st := by
  obtain ⟨-, ⟨b0, b1, b2⟩, ⟨c0, c1, c2⟩, ⟨d0, d1, d2⟩, ⟨⟨e0, e1, e2⟩, e3, e4, e5⟩, ⟨-, ⟨f2, a2⟩, ⟨f3, a3⟩, ⟨f4, a4⟩, ⟨f5, a5⟩, ⟨f6, a6⟩, ⟨f7, a7⟩, ⟨f8, a8⟩, ⟨f9, a9⟩, f10, a10⟩⟩ := r
  have kk : ∀ a, a ≠ M → a ≠ M + 6 → h'.1 a = h.1 a := k.2
  exact ⟨⟨_, q.1⟩, ⟨b0, (kk _ (by omega) (by omega)).trans b1, b2⟩, ⟨c0, (kk _ (by omega) (by omega)).trans c1, c2⟩, ⟨d0, (kk _ (by omega) (by omega)).trans d1, d2⟩, ⟨⟨e0, (kk _ (by omega) (by omega)).trans e1, e2⟩, e3, (kk _ (by omega) (by omega)).trans e4, e5⟩, ⟨q.2.choose, q.2.choose_spec.1⟩, ⟨f2, (kk _ (by omega) (by omega)).trans a2⟩, ⟨f3, (kk _ (by omega) (by omega)).trans a3⟩, ⟨f4, (kk _ (by omega) (by omega)).trans a4⟩, ⟨f5, (kk _ (by omega) (by omega)).trans a5⟩, ⟨f6, (kk _ (by omega) (by omega)).trans a6⟩, ⟨f7, (kk _ (by omega) (by omega)).trans a7⟩, ⟨f8, (kk _ (by omega) (by omega)).trans a8⟩, ⟨f9, (kk _ (by omega) (by omega)).trans a9⟩, f10, (kk _ (by omega) (by omega)).trans a10⟩
theorem Fm.fr {h h' : smH} {M : Nat} (k : Fm h h' M) : Fr h h' M (M + 16) := ⟨k.1, fun a ha => k.2 a (by omega) (by omega)⟩
theorem Fm.ia {h h' : smH} {M a n : Nat} {f} (k : Fm h h' M) (x : IA h a n f) (h1 : a ≠ M) (h2 : a ≠ M + 6) : IA h' a n f := (k.2 a h1 h2).trans x
def dwR (ws nd : List Nat) (sl r p a b : Nat) : Option Nat := match dwS ws nd r p a b with
  | none => none
  | some (x, o) => if o ≤ sl then some x else none
theorem m130_loop {X : smX} {h : smH} {M d l x n sl : Nat} {ws : List Nat} {f g : Nat → Int32} (a0 : MObj h M d l (spN n).length) (c1 : IA h (M + 1) 219 f) (g1 : IA h (M + 6) 40 g) (g2 : ∀ k, k < (spN n).length → g k = nI (nA (spN n) k)) (hn : n < 1000) (hsl : sl ≤ 2) (hf1 : f 1 = nI sl) (hl : ws.length = (spN n).length) (hA' : ∀ k, nA ws k < 256) (hx : x + 1 + ws.length ≤ 219) (p2 : ∀ k, k < ws.length → f (x + 1 + k) = nI (nA ws k)) : ∀ (r p a b : Nat), p + r = ws.length → a ≤ 3 * p → b ≤ p → sm_E PP X 130 36 [(0, .ref M), (3, .int (nI x)), (4, .int (nI a)), (5, .int (nI b)), (6, .int (nI p))] [] h = some (some (.int (oI (dwR ws (spN n) sl r p a b))), h) := by
  intro r
  have h31 := spN_len hn
  induction r with
  | zero =>
    intro p a b hp ha hb
    rw [b130_36]
    simp only [fO a0, sm_gI_s, sm_gR_s, sm_gJ_s, sm_cR_s, sm_al_s, sm_sw_s, sm_tl1, sm_tl0, sm_ap0, sm_ap1, List.getElem?_cons_zero, List.getElem?_cons_succ, nk10, nk11, if_true, eq_self]
    rw [if_pos (nI_le (by omega) (by omega)), aO c1, ldO (show 1 < 219 by omega) (by omega), hf1, b130_179, b130_179]
    unfold dwR dwS
    dsimp only
    by_cases hc : b ≤ sl
    · rw [if_pos (nI_le hc (by omega)), if_pos hc]; rfl
    · rw [if_neg (nI_ge (by omega) (by omega)), if_neg hc]; rfl
  | succ r ih =>
    intro p a b hp ha hb
    have hA := hA' p
    have hB := spN_let hn (k := p) (by omega)
    have ldS : ∀ κ : Int32 → smR, sm_ld (sm_ar PP X h (.ref (M + 6))) .int (nI p) κ = κ (nI (nA (spN n) p)) := fun κ => by rw [aO g1, ldO (by omega) (by omega), g2 p (by omega)]
    have ldW : ∀ κ : Int32 → smR, sm_ld (sm_ar PP X h (.ref (M + 1))) .int (nI (x + 1 + p)) κ = κ (nI (nA ws p)) := fun κ => by rw [aO c1, ldO (by omega) (by omega), p2 p (by omega)]
    have stp : ∀ v w, v ≤ 3 → w ≤ p + 1 → sm_E PP X 130 152 [(0, .ref M), (3, .int (nI x)), (5, .int (nI w)), (6, .int (nI p))] [.int (nI v), .int (nI a)] h = some (some (.int (oI (dwR ws (spN n) sl r (p + 1) (a + v) w))), h) := fun v w hv hw => by
      rw [b130_152, nI_add, nI_add]
      exact ih (p + 1) (a + v) w (by omega) (by omega) (by omega)
    rw [b130_36]
    simp only [fO a0, sm_gI_s, sm_gR_s, sm_gJ_s, sm_cR_s, sm_al_s, sm_sw_s, sm_tl1, sm_tl0, sm_ap0, sm_ap1, List.getElem?_cons_zero, List.getElem?_cons_succ, nk10, nk11, if_true, eq_self]
    rw [if_neg (nI_ge (by omega) (by omega))]
    simp only [nI_add, ldW, b130_70, fO a0, sm_gI_s, sm_gR_s, sm_gJ_s, sm_cR_s, sm_al_s, sm_sw_s, sm_tl1, sm_tl0, sm_ap0, sm_ap1, List.getElem?_cons_zero, List.getElem?_cons_succ, nk10, nk11, if_true, eq_self, ldS, b130_87, b130_118, b130_119, nI_eq (show nA ws p < 2 ^ 31 by omega) (show 32 < 2 ^ 31 by omega), nI_eq (show nA (spN n) p < 2 ^ 31 by omega) (show 32 < 2 ^ 31 by omega), nI_eq (show nA ws p < 2 ^ 31 by omega) (show 63 < 2 ^ 31 by omega), nI_eq (show nA ws p < 2 ^ 31 by omega) (show nA (spN n) p < 2 ^ 31 by omega)]
    unfold dwR dwS
    have d10 : ¬ (nI 1 : Int32) = nI 0 := by decide
    have d01 : ¬ (nI 0 : Int32) = nI 1 := by decide
    by_cases h1 : nA ws p = 32
    · by_cases h2 : nA (spN n) p = 32
      · have h3 : ¬ nA ws p = 63 := by omega
        have h4 : nA ws p = nA (spN n) p := by omega
        simp only [if_pos h1, if_pos h2, if_neg h3, if_pos h4, if_pos (show (nA ws p = 32) ↔ (nA (spN n) p = 32) by omega), if_true]
        exact stp 0 b (by omega) (by omega)
      · simp only [if_pos h1, if_neg h2, if_neg (show ¬ ((nA ws p = 32) ↔ (nA (spN n) p = 32)) by omega), if_neg d10, if_neg d01]
        rfl
    · by_cases h2 : nA (spN n) p = 32
      · simp only [if_neg h1, if_pos h2, if_neg (show ¬ ((nA ws p = 32) ↔ (nA (spN n) p = 32)) by omega), if_neg d10, if_neg d01]
        rfl
      · simp only [if_neg h1, if_neg h2, if_pos (show (nA ws p = 32) ↔ (nA (spN n) p = 32) by omega), if_true]
        by_cases h3 : nA ws p = 63
        · simp only [if_pos h3]
          exact stp 1 b (by omega) (by omega)
        · by_cases h4 : nA ws p = nA (spN n) p
          · simp only [if_neg h3, if_pos h4]
            exact stp 0 b (by omega) (by omega)
          · simp only [if_neg h3, if_neg h4]
            exact stp 3 (b + 1) (by omega) (by omega)
/-- doubtByWords -/
theorem m130 {X : smX} {h : smH} {M e n : Nat} {st : St} (r : RepM h M st) (he : e < st.2.1.1.length) (hn : n < 1000) : ∃ h', sm_C PP X 130 [.ref M, .int (nI e), .int (nI n)] h = some (some (.int (oI (dW (en st.2.1 e).1 st.2.1.2.1 n))), h') ∧ RepM h' M st ∧ Fm h h' M := by
  obtain ⟨⟨q, a⟩, -, ⟨f, c1, c2⟩, -, -, ⟨⟨g0, g1⟩, -⟩⟩ := id r
  have h6 := c2.2.2.2.1.1
  obtain ⟨c3, c4⟩ := c2.2.2.2.2 e he
  obtain ⟨p1, p2⟩ := c3.part (s := st.2.1) (e := e) (j := 0) (by omega)
  have hrow : rowF st.2.1 e 0 = (en st.2.1 e).1 := rfl
  rw [hrow] at p1 p2
  have l3 := c4.1
  have h31 := spN_len hn
  obtain ⟨h1, e1, q1, k1⟩ := m129 (X := X) a g1 hn
  have cc := k1.ia c1 (by omega) (by omega)
  refine ⟨h1, ?_, r.sp k1 q1, k1⟩
  rw [c130, b130_0, m118 (by omega) (by omega)]
  simp only [sm_gI_s, sm_gR_s, sm_gJ_s, sm_cR_s, sm_al_s, sm_sw_s, sm_tl1, sm_tl0, sm_ap0, sm_ap1, List.getElem?_cons_zero, List.getElem?_cons_succ, nk10, nk11, if_true, eq_self, b130_5, vO a, e1, b130_11, fO q1.1]
  rw [aO cc, ldO (show 3 + 36 * e + 32 * 0 < 219 by omega) (by omega), p1]
  unfold dW
  by_cases hc : (en st.2.1 e).1.length = (spN n).length
  · rw [if_pos (by rw [hc]), if_pos hc]
    obtain ⟨-, g, g3, g4⟩ := id q1
    have hf1 := c2.2.1
    exact m130_loop q1.1 cc g3 g4 hn c2.2.2.2.1.2.1 hf1 hc c4.2.2.1 (by omega) p2 _ 0 0 0 (by omega) (by omega) (by omega)
  · rw [if_neg (fun q => hc ((nI_eq (by omega) (by omega)).mp q).symm), if_neg hc]
    rfl
