/-! THE TEXT: class Text -/
def okW (ws : List Nat) (k : Nat) : Bool :=
  if nA ws k = 61 then decide (0 < k) else if k < 31 then (if nA ws k = 32 then decide (0 < k ∧ nA ws (k - 1) ≠ 32 ∧ nA ws (k + 1) ≠ 61) else decide (nA ws k = 63 ∨ (97 ≤ nA ws k ∧ nA ws k ≤ 122))) else false
def okF (j c : Nat) : Bool := decide (j ≤ 3 ∧ (c = 63 ∨ (48 ≤ c ∧ c ≤ 57)))
/-- FAULT, from place k on, r letters left; none: the text tells an entry -/
def flt (ws : List Nat) : Nat → Nat → Option Nat → Option Nat
  | 0, _, none => some ws.length
  | 0, _, some q => if q + 1 = ws.length then some ws.length else none
  | r + 1, k, none => bif okW ws k then flt ws r (k + 1) (if nA ws k = 61 then some k else none) else some k
  | r + 1, k, some q => bif okF (k - q) (nA ws k) then flt ws r (k + 1) (if nA ws k = 61 then some k else some q) else some k
def oI (o : Option Nat) : Int32 := match o with
  | none => -nI 9
  | some k => nI k
theorem oIn : oI none = -nI 9 := rfl
def bI (b : Bool) : Int32 := if b = true then nI 1 else nI 0
def eqp (ws : List Nat) : Nat → Nat → Nat
  | 0, k => k
  | r + 1, k => if nA ws k = 61 then k else eqp ws r (k + 1)
def TextAt (h : smH) (t : Nat) (ws : List Nat) : Prop := h.1 t = some (.inr (6, [.ref (t + 1), .int (nI ws.length)])) ∧ (ws.length ≤ 40 ∧ ∀ k, nA ws k < 256) ∧ ChAt h (t + 1) 40 ws
theorem TextAt.kept {h h' : smH} {t : Nat} {ws : List Nat} (hr : TextAt h t ws) (h1 : h'.1 t = h.1 t) (h2 : h'.1 (t + 1) = h.1 (t + 1)) : TextAt h' t ws := by
  obtain ⟨a, b, f, c⟩ := hr
  exact ⟨by rw [h1]; exact a, b, f, by rw [h2]; exact c⟩
theorem TextAt.fr {h h' : smH} {t lo hi : Nat} {ws : List Nat} (hr : TextAt h t ws) (f : Fr h h' lo hi) (hd : t + 2 ≤ lo ∨ hi ≤ t) : TextAt h' t ws := hr.kept (f.2 _ (by omega)) (f.2 _ (by omega))
theorem m30 {X : smX} {h : smH} {t : Nat} {ws : List Nat} (hr : TextAt h t ws) {k : Nat} (hk : k < 2 ^ 31) : sm_C PP X 30 [.ref t, .int (nI k)] h = some (some (.int (nI (nA ws k))), h) := by
  obtain ⟨h1, ⟨h2, h4⟩, f, h5, -, h6⟩ := id hr
  simp only [c30, b30_0, b30_30, b30_31, sm_gI_s, sm_gR_s, sm_gJ_s, sm_cR_s, sm_al_s, sm_sw_s, sm_tl1, sm_tl0, sm_ap0, sm_ap1, List.getElem?_cons_zero, List.getElem?_cons_succ, nk10, nk11, if_true, eq_self, fO h1, aO h5]
  rw [if_neg (nI_pos hk)]
  by_cases hc : k < ws.length
  · rw [if_neg (nI_ge hc (by omega)), if_neg (nI_ge (show k < 40 by omega) (by omega)), ldO (by omega) (by omega), h6 k hc, if_pos (nk2 (by have := h4 k; omega))]
  · rw [if_pos (nI_le (by omega) hk), if_pos (nk2 (by omega)), nA_out (by omega)]
theorem m31 {X : smX} {h : smH} {c : Nat} (hc : c < 256) : sm_C PP X 31 [.int (nI c)] h = some (some (.int (bI (decide (97 ≤ c ∧ c ≤ 122)))), h) := by
  simp only [c31, b31_0, b31_16, b31_17, sm_gI_s, sm_gR_s, sm_gJ_s, sm_cR_s, sm_al_s, sm_sw_s, sm_tl1, sm_tl0, sm_ap0, sm_ap1, List.getElem?_cons_zero, List.getElem?_cons_succ, nk10, nk11, if_true, eq_self, nI_ltI (show c < 2 ^ 31 by omega) (show 97 < 2 ^ 31 by omega), nI_ltI (show 122 < 2 ^ 31 by omega) (show c < 2 ^ 31 by omega)]
  unfold bI
  by_cases h1 : c < 97
  · rw [if_pos h1, if_neg (by simp; omega)]
  · rw [if_neg h1]
    by_cases h2 : 122 < c
    · rw [if_pos h2, if_neg (by simp; omega)]
    · rw [if_neg h2, if_pos (by simp; omega)]
theorem m33 {X : smX} {h : smH} {c : Nat} (hc : c < 256) : sm_C PP X 33 [.int (nI c)] h = some (some (.int (bI (decide (48 ≤ c ∧ c ≤ 57)))), h) := by
  simp only [c33, b33_0, b33_16, b33_17, sm_gI_s, sm_gR_s, sm_gJ_s, sm_cR_s, sm_al_s, sm_sw_s, sm_tl1, sm_tl0, sm_ap0, sm_ap1, List.getElem?_cons_zero, List.getElem?_cons_succ, nk10, nk11, if_true, eq_self, nI_ltI (show c < 2 ^ 31 by omega) (show 48 < 2 ^ 31 by omega), nI_ltI (show 57 < 2 ^ 31 by omega) (show c < 2 ^ 31 by omega)]
  unfold bI
  by_cases h1 : c < 48
  · rw [if_pos h1, if_neg (by simp; omega)]
  · rw [if_neg h1]
    by_cases h2 : 57 < c
    · rw [if_pos h2, if_neg (by simp; omega)]
    · rw [if_neg h2, if_pos (by simp; omega)]
theorem bI_0 {b : Bool} : (bI b = 0) = (b = false) := by
  cases b
  · exact propext ⟨fun _ => rfl, fun _ => rfl⟩
  · exact propext ⟨fun h => absurd h (by decide), fun h => by cases h⟩
theorem m34 {X : smX} {h : smH} {j c : Nat} (hj : j < 2 ^ 31) (hc : c < 256) : sm_C PP X 34 [.int (nI j), .int (nI c)] h = some (some (.int (bI (okF j c))), h) := by
  simp only [c34, b34_0, b34_22, b34_18, b34_15, b34_23, sm_gI_s, sm_gR_s, sm_gJ_s, sm_cR_s, sm_al_s, sm_sw_s, sm_tl1, sm_tl0, sm_ap0, sm_ap1, List.getElem?_cons_zero, List.getElem?_cons_succ, nk10, nk11, if_true, eq_self, m33 hc, nI_ltI (show 3 < 2 ^ 31 by omega) hj, nI_eq (show c < 2 ^ 31 by omega) (show 63 < 2 ^ 31 by omega), bI_0]
  unfold okF
  by_cases h1 : 3 < j
  · rw [if_pos h1]
    unfold bI
    rw [if_neg (by simp; omega)]
  · rw [if_neg h1]
    by_cases h2 : c = 63
    · rw [if_pos h2]
      unfold bI
      rw [if_pos (by simp; omega)]
    · rw [if_neg h2]
      by_cases h3 : 48 ≤ c ∧ c ≤ 57
      · rw [if_neg (by simp; omega)]
        unfold bI
        rw [if_pos (by simp; omega)]
      · rw [if_pos (by simp; omega)]
        unfold bI
        rw [if_neg (by simp; omega)]
theorem m32 {X : smX} {h : smH} {t : Nat} {ws : List Nat} (hr : TextAt h t ws) {k : Nat} (hk : k < 2 ^ 30) : sm_C PP X 32 [.ref t, .int (nI k)] h = some (some (.int (bI (okW ws k))), h) := by
  have hA := hr.2.1.2
  have e0 : (nI k ≤ 0) = (k = 0) := by
    rw [show (0 : Int32) = nI 0 from rfl, nI_leI (by omega) (by omega)]
    exact propext ⟨fun h => by omega, fun h => by omega⟩
  simp only [c32, b32_0, b32_5, b32_21, b32_68, b32_47, b32_83, b32_80, b32_69, b32_59, b32_88, sm_gI_s, sm_gR_s, sm_gJ_s, sm_cR_s, sm_al_s, sm_sw_s, sm_tl1, sm_tl0, sm_ap0, sm_ap1, List.getElem?_cons_zero, List.getElem?_cons_succ, nk10, nk11, if_true, eq_self, vO hr.1, m30 hr (show k < 2 ^ 31 by omega), nI_eq (show nA ws k < 2 ^ 31 by have := hA k; omega) (show 61 < 2 ^ 31 by omega), nI_eq (show nA ws k < 2 ^ 31 by have := hA k; omega) (show 32 < 2 ^ 31 by omega), nI_eq (show nA ws k < 2 ^ 31 by have := hA k; omega) (show 63 < 2 ^ 31 by omega), e0, nI_ltI (show k < 2 ^ 31 by omega) (show 31 < 2 ^ 31 by omega), nI_add, m30 hr (show k + 1 < 2 ^ 31 by omega), m31 (hA k), bI_0]
  unfold okW
  by_cases h1 : nA ws k = 61
  · rw [if_pos h1, if_pos h1]
    by_cases h2 : k = 0
    · rw [if_pos h2, h2]; rfl
    · rw [if_neg h2, show decide (0 < k) = true by simp; omega]; rfl
  · rw [if_neg h1, if_neg h1]
    by_cases h2 : k < 31
    · rw [if_pos h2, if_pos h2]
      by_cases h3 : nA ws k = 32
      · rw [if_pos h3, if_pos h3]
        by_cases h4 : k = 0
        · rw [if_pos h4, h4]; rfl
        · rw [if_neg h4, pk_sub (show 1 ≤ k by omega), m30 hr (show k - 1 < 2 ^ 31 by omega)]
          simp only [c32, b32_0, b32_5, b32_21, b32_68, b32_47, b32_83, b32_80, b32_69, b32_59, b32_88, sm_gI_s, sm_gR_s, sm_gJ_s, sm_cR_s, sm_al_s, sm_sw_s, sm_tl1, sm_tl0, sm_ap0, sm_ap1, List.getElem?_cons_zero, List.getElem?_cons_succ, nk10, nk11, if_true, eq_self, vO hr.1, m30 hr (show k + 1 < 2 ^ 31 by omega), nI_add, nI_eq (show nA ws (k - 1) < 2 ^ 31 by have := hA (k - 1); omega) (show 32 < 2 ^ 31 by omega), nI_eq (show nA ws (k + 1) < 2 ^ 31 by have := hA (k + 1); omega) (show 61 < 2 ^ 31 by omega)]
          by_cases h5 : nA ws (k - 1) = 32
          · rw [if_pos h5, show decide (0 < k ∧ nA ws (k - 1) ≠ 32 ∧ nA ws (k + 1) ≠ 61) = false by simp [h5]]; rfl
          · rw [if_neg h5]
            by_cases h6 : nA ws (k + 1) = 61
            · rw [if_pos h6, show decide (0 < k ∧ nA ws (k - 1) ≠ 32 ∧ nA ws (k + 1) ≠ 61) = false by simp [h6]]; rfl
            · rw [if_neg h6, show decide (0 < k ∧ nA ws (k - 1) ≠ 32 ∧ nA ws (k + 1) ≠ 61) = true by simp [h5, h6]; omega]; rfl
      · rw [if_neg h3, if_neg h3]
        by_cases h4 : nA ws k = 63
        · rw [if_pos h4, show decide (nA ws k = 63 ∨ (97 ≤ nA ws k ∧ nA ws k ≤ 122)) = true by simp [h4]]; rfl
        · rw [if_neg h4]
          by_cases h5 : 97 ≤ nA ws k ∧ nA ws k ≤ 122
          · rw [if_neg (by simp [h5]), show decide (nA ws k = 63 ∨ (97 ≤ nA ws k ∧ nA ws k ≤ 122)) = true by simp [h5]]; rfl
          · rw [if_pos (by simp; omega), show decide (nA ws k = 63 ∨ (97 ≤ nA ws k ∧ nA ws k ≤ 122)) = false by simp; omega]; rfl
    · rw [if_neg h2, if_neg h2]; rfl
theorem neg9_ne {n : Nat} (h : n < 2 ^ 30) : ¬ nI n = -nI 9 := by
  rw [i_eq, nI_toInt (by omega), nI_neg (by omega)]
  omega
theorem m35_loop {X : smX} {h : smH} {t : Nat} {ws : List Nat} (hr : TextAt h t ws) : ∀ (r k : Nat), k + r = ws.length → ∀ o : Option Nat, (∀ q, o = some q → q < k) → sm_E PP X 35 5 [(0, .ref t), (1, .int (oI o)), (2, .int (nI k))] [] h = some (some (.int (oI (flt ws r k o))), h) := by
  intro r
  have h2 := hr.2.1.1
  have hA := hr.2.1.2
  induction r with
  | zero =>
    intro k hk o ho
    simp only [b35_5, sm_gI_s, sm_gR_s, sm_gJ_s, sm_cR_s, sm_al_s, sm_sw_s, sm_tl1, sm_tl0, sm_ap0, sm_ap1, List.getElem?_cons_zero, List.getElem?_cons_succ, nk10, nk11, if_true, eq_self, fO hr.1]
    rw [if_pos (nI_le (by omega) (by omega))]
    cases o with
    | none =>
      rw [if_pos oIn]
      simp only [b35_79, b35_84, b35_98, sm_gI_s, sm_gR_s, sm_gJ_s, sm_cR_s, sm_al_s, sm_sw_s, sm_tl1, sm_tl0, sm_ap0, sm_ap1, List.getElem?_cons_zero, List.getElem?_cons_succ, nk10, nk11, if_true, eq_self, fO hr.1]
      rw [if_neg (by decide)]
      rfl
    | some q =>
      have hq := ho q rfl
      rw [show oI (some q) = nI q from rfl, if_neg (neg9_ne (by omega)), pk_sub (show 1 ≤ ws.length by omega)]
      unfold flt
      by_cases hc : q + 1 = ws.length
      · rw [if_pos ((nI_eq (by omega) (by omega)).mpr (by omega)), if_pos hc]
        simp only [b35_79, b35_84, b35_98, sm_gI_s, sm_gR_s, sm_gJ_s, sm_cR_s, sm_al_s, sm_sw_s, sm_tl1, sm_tl0, sm_ap0, sm_ap1, List.getElem?_cons_zero, List.getElem?_cons_succ, nk10, nk11, if_true, eq_self, fO hr.1]
        rw [if_neg (by decide)]
        rfl
      · rw [if_neg (fun e => hc (by have := (nI_eq (by omega) (by omega)).mp e; omega)), if_neg hc]
        simp only [b35_84, b35_98, sm_gI_s, sm_gR_s, sm_gJ_s, sm_cR_s, sm_al_s, sm_sw_s, sm_tl1, sm_tl0, sm_ap0, sm_ap1, List.getElem?_cons_zero, List.getElem?_cons_succ, nk10, nk11, if_true, eq_self]
        rw [if_pos (by decide)]
        rfl
  | succ r ih =>
    intro k hk o ho
    have hA := hr.2.1.2
    simp only [b35_5, sm_gI_s, sm_gR_s, sm_gJ_s, sm_cR_s, sm_al_s, sm_sw_s, sm_tl1, sm_tl0, sm_ap0, sm_ap1, List.getElem?_cons_zero, List.getElem?_cons_succ, nk10, nk11, if_true, eq_self, fO hr.1]
    rw [if_neg (nI_ge (by omega) (by omega))]
    have hAk := hA k
    cases o with
    | none =>
      rw [if_pos oIn]
      simp only [b35_24, b35_38, b35_50, b35_57, sm_gI_s, sm_gR_s, sm_gJ_s, sm_cR_s, sm_al_s, sm_sw_s, sm_tl1, sm_tl0, sm_ap0, sm_ap1, List.getElem?_cons_zero, List.getElem?_cons_succ, nk10, nk11, if_true, eq_self, vO hr.1, m32 hr (show k < 2 ^ 30 by omega), m30 hr (show k < 2 ^ 31 by omega), bI_0, nI_add, nI_eq (show nA ws k < 2 ^ 31 by omega) (show 61 < 2 ^ 31 by omega)]
      unfold flt
      cases hw : okW ws k with
      | false => rw [if_pos rfl]; rfl
      | true =>
        rw [if_neg (by decide)]
        by_cases hc : nA ws k = 61
        · rw [if_pos hc, if_pos hc]
          exact ih (k + 1) (by omega) (some k) (fun q e => by cases e; omega)
        · rw [if_neg hc, if_neg hc]
          exact ih (k + 1) (by omega) none (fun q e => by cases e)
    | some q =>
      have hq := ho q rfl
      rw [show oI (some q) = nI q from rfl, if_neg (neg9_ne (by omega))]
      simp only [b35_35, b35_38, b35_50, b35_57, sm_gI_s, sm_gR_s, sm_gJ_s, sm_cR_s, sm_al_s, sm_sw_s, sm_tl1, sm_tl0, sm_ap0, sm_ap1, List.getElem?_cons_zero, List.getElem?_cons_succ, nk10, nk11, if_true, eq_self, vO hr.1, m30 hr (show k < 2 ^ 31 by omega), pk_sub (show q ≤ k by omega), m34 (show k - q < 2 ^ 31 by omega) hAk, bI_0, nI_add, nI_eq (show nA ws k < 2 ^ 31 by omega) (show 61 < 2 ^ 31 by omega)]
      unfold flt
      cases hw : okF (k - q) (nA ws k) with
      | false => rw [if_pos rfl]; rfl
      | true =>
        rw [if_neg (by decide)]
        by_cases hc : nA ws k = 61
        · rw [if_pos hc, if_pos hc]
          exact ih (k + 1) (by omega) (some k) (fun q e => by cases e; omega)
        · rw [if_neg hc, if_neg hc]
          exact ih (k + 1) (by omega) (some q) (fun q e => by cases e; omega)
theorem m35 {X : smX} {h : smH} {t : Nat} {ws : List Nat} (hr : TextAt h t ws) : sm_C PP X 35 [.ref t] h = some (some (.int (oI (flt ws ws.length 0 none))), h) := by
  simp only [c35, b35_0]
  exact m35_loop hr ws.length 0 (by omega) none (fun q e => by cases e)
theorem m44_loop {X : smX} {h : smH} {t : Nat} {ws : List Nat} (hr : TextAt h t ws) : ∀ (r k : Nat), k + r = ws.length → sm_E PP X 44 2 [(0, .ref t), (1, .int (nI k))] [] h = some (some (.int (nI (eqp ws r k))), h) := by
  intro r
  have h2 := hr.2.1.1
  have hA := hr.2.1.2
  induction r with
  | zero =>
    intro k hk
    simp only [b44_2, sm_gI_s, sm_gR_s, sm_gJ_s, sm_cR_s, sm_al_s, sm_sw_s, sm_tl1, sm_tl0, sm_ap0, sm_ap1, List.getElem?_cons_zero, List.getElem?_cons_succ, nk10, nk11, if_true, eq_self, fO hr.1]
    rw [if_pos (nI_le (by omega) (by omega))]
    unfold eqp
    rw [show ws.length = k by omega]
  | succ r ih =>
    intro k hk
    have hAk := hA k
    rw [b44_2]
    simp only [b44_15, sm_gI_s, sm_gR_s, sm_gJ_s, sm_cR_s, sm_al_s, sm_sw_s, sm_tl1, sm_tl0, sm_ap0, sm_ap1, List.getElem?_cons_zero, List.getElem?_cons_succ, nk10, nk11, if_true, eq_self, fO hr.1, vO hr.1, m30 hr (show k < 2 ^ 31 by omega), nI_add, nI_eq (show nA ws k < 2 ^ 31 by omega) (show 61 < 2 ^ 31 by omega)]
    rw [if_neg (nI_ge (by omega) (by omega))]
    unfold eqp
    by_cases hc : nA ws k = 61
    · rw [if_pos hc, if_pos hc]
    · rw [if_neg hc, if_neg hc]
      exact ih (k + 1) (by omega)
theorem m44 {X : smX} {h : smH} {t : Nat} {ws : List Nat} (hr : TextAt h t ws) : sm_C PP X 44 [.ref t] h = some (some (.int (nI (eqp ws ws.length 0))), h) := by
  simp only [c44, b44_0]
  exact m44_loop hr ws.length 0 (by omega)
theorem nA_app {a b : List Nat} {k : Nat} : nA (a ++ b) k = if k < a.length then nA a k else nA b (k - a.length) := by
  unfold nA
  rw [List.getD_eq_getElem?_getD, List.getD_eq_getElem?_getD, List.getD_eq_getElem?_getD]
  split
  · rename_i h; rw [List.getElem?_append_left h]
  · rename_i h; rw [List.getElem?_append_right (by omega)]
/-- add: a letter more, if there is room -/
theorem m27 {X : smX} {h : smH} {t : Nat} {ws : List Nat} (hr : TextAt h t ws) {c : Nat} (hc : c < 256) : ∃ h', sm_C PP X 27 [.ref t, .int (nI c)] h = some (some (.int (bI (decide (ws.length < 40)))), h') ∧ TextAt h' t (if ws.length < 40 then ws ++ [c] else ws) ∧ Fr h h' t (t + 2) := by
  obtain ⟨h1, ⟨h2, h4⟩, f, h5, h6, h7⟩ := id hr
  by_cases hl : ws.length < 40
  · have hlen : (ws ++ [c]).length = ws.length + 1 := by simp
    have g1 : (sm_w h (t + 1) (.inl (.char, 40, .inl (upd f ws.length (nI c))))).1 t = some (.inr (6, [.ref (t + 1), .int (nI ws.length)])) := by rw [w_ne (by omega)]; exact h1
    refine ⟨sm_w (sm_w h (t + 1) (.inl (.char, 40, .inl (upd f ws.length (nI c))))) t (.inr (6, [.ref (t + 1), .int (nI (ws.length + 1))])), ?_, ?_, ?_⟩
    · simp only [c27, b27_0, sm_gI_s, sm_gR_s, sm_gJ_s, sm_cR_s, sm_al_s, sm_sw_s, sm_tl1, sm_tl0, sm_ap0, sm_ap1, List.getElem?_cons_zero, List.getElem?_cons_succ, nk10, nk11, if_true, eq_self, fO h1, aO h5, stO h5 hl (show 40 < 2 ^ 31 by omega), nar2 (show c < 65536 by omega), nI_add]
      rw [if_pos (nI_lt hl (by omega)), fO g1]
      simp only [sm_gI_s, sm_gR_s, sm_gJ_s, sm_cR_s, sm_al_s, sm_sw_s, sm_tl1, sm_tl0, sm_ap0, sm_ap1, List.getElem?_cons_zero, List.getElem?_cons_succ, nk10, nk11, if_true, eq_self]
      rw [pO g1 (by show 1 < 2; omega), nI_add]
      rw [show decide (ws.length < 40) = true by simp; omega]
      rfl
    · rw [if_pos hl]
      refine ⟨by rw [w_eq, hlen], ⟨by rw [hlen]; omega, fun k => ?_⟩, upd f ws.length (nI c), by rw [w_ne (by omega), w_eq], fun k hk => ?_, fun k hk => ?_⟩
      · rw [nA_app]
        split
        · exact h4 k
        · unfold nA
          cases hz : k - ws.length with
          | zero => exact hc
          | succ z => show 0 < 256; omega
      · unfold upd
        split
        · exact ⟨c, hc, rfl⟩
        · exact h6 k hk
      · rw [hlen] at hk
        rw [nA_app]
        unfold upd
        by_cases e : k = ws.length
        · rw [if_pos e, if_neg (by omega), e, Nat.sub_self]; rfl
        · rw [if_neg e, if_pos (by omega)]; exact h7 k (by omega)
    · exact Fr.w.tr (Fr.w (h := sm_w h (t + 1) _)) (by omega) (by omega) (by omega) (by omega)
  · refine ⟨h, ?_, by rw [if_neg hl]; exact hr, Fr.rf⟩
    simp only [c27, b27_0, sm_gI_s, sm_gR_s, sm_gJ_s, sm_cR_s, sm_al_s, sm_sw_s, sm_tl1, sm_tl0, sm_ap0, sm_ap1, List.getElem?_cons_zero, List.getElem?_cons_succ, nk10, nk11, if_true, eq_self, fO h1, aO h5]
    rw [if_neg (nI_nlt (by omega) (by omega)), show decide (ws.length < 40) = false by simp; omega]
    rfl
theorem nA_take {ws : List Nat} {a n k : Nat} (hk : k < n) : nA ((ws.drop a).take n) k = nA ws (a + k) := by
  unfold nA
  rw [List.getD_eq_getElem?_getD, List.getD_eq_getElem?_getD, List.getElem?_take, if_pos hk, List.getElem?_drop]
theorem m45_loop {X : smX} {r t cap a : Nat} {tx tg : List Nat} (hd : r + 2 ≤ t ∨ t + 2 ≤ r) (ha : a + tg.length ≤ 100) (htg : ∀ k, k < tg.length → nA tg k = nA tx (a + k)) : ∀ (d k : Nat), k + d = tg.length → ∀ (h : smH) (ws : List Nat), RowAt h r cap ws → ws.length = tg.length → (∀ j, j < k → nA ws j = nA tg j) → TextAt h t tx → ∃ h', sm_E PP X 45 22 [(0, .ref r), (1, .ref t), (2, .int (nI a)), (4, .int (nI k))] [] h = some (none, h') ∧ RowAt h' r cap tg ∧ Fr h h' r (r + 2) := by
  intro d
  induction d with
  | zero =>
    intro k hk h ws hr hl hj ht
    refine ⟨h, ?_, ?_, Fr.rf⟩
    · simp only [b45_22, sm_gI_s, sm_gR_s, sm_gJ_s, sm_cR_s, sm_al_s, sm_sw_s, sm_tl1, sm_tl0, sm_ap0, sm_ap1, List.getElem?_cons_zero, List.getElem?_cons_succ, nk10, nk11, if_true, eq_self, fO hr.1]
      rw [if_pos (nI_le (by omega) (by omega))]
    · obtain rfl : ws = tg := nA_ext hl (fun j h => hj j (by omega))
      exact hr
  | succ d ih =>
    intro k hk h ws hr hl hj ht
    have hA := ht.2.1.2 (a + k)
    obtain ⟨h', e1, hr', fr⟩ := m38 (X := X) hr (k := k) (c := nA tx (a + k)) (by omega) hA
    obtain ⟨h'', e2, hr'', fr2⟩ := ih (k + 1) (by omega) h' _ hr' (by rw [List.length_set]; exact hl) (fun j h => by
      rw [nA_set (by omega)]
      split
      · rename_i e; rw [e, htg k (by omega)]
      · exact hj j (by omega)) (ht.fr fr (by omega))
    refine ⟨h'', ?_, hr'', fr.tr fr2 (by omega) (by omega) (by omega) (by omega)⟩
    simp only [b45_22, sm_gI_s, sm_gR_s, sm_gJ_s, sm_cR_s, sm_al_s, sm_sw_s, sm_tl1, sm_tl0, sm_ap0, sm_ap1, List.getElem?_cons_zero, List.getElem?_cons_succ, nk10, nk11, if_true, eq_self, fO hr.1]
    rw [if_neg (nI_ge (by omega) (by omega))]
    simp only [b45_42, b45_45, sm_gI_s, sm_gR_s, sm_gJ_s, sm_cR_s, sm_al_s, sm_sw_s, sm_tl1, sm_tl0, sm_ap0, sm_ap1, List.getElem?_cons_zero, List.getElem?_cons_succ, nk10, nk11, if_true, eq_self, vO ht.1, nI_add, m30 ht (show a + k < 2 ^ 31 by omega), vO hr.1, e1, e2]
/-- takeFrom: the letters from a to b -/
theorem m45 {X : smX} {h : smH} {r t cap a b : Nat} {ws tx : List Nat} (hd : r + 2 ≤ t ∨ t + 2 ≤ r) (hr : RowAt h r cap ws) (ht : TextAt h t tx) (hab : a ≤ b) (hb : b ≤ tx.length) (hc : b - a ≤ cap) : ∃ h', sm_C PP X 45 [.ref r, .ref t, .int (nI a), .int (nI b)] h = some (none, h') ∧ RowAt h' r cap ((tx.drop a).take (b - a)) ∧ Fr h h' r (r + 2) := by
  obtain ⟨h1, ⟨h2, h3, h4⟩, f, h5, h6, h7⟩ := id hr
  have h40 := ht.2.1.1
  have hlen : ((tx.drop a).take (b - a)).length = b - a := by rw [List.length_take, List.length_drop]; omega
  have hbn : ∀ k, ∃ c : Nat, k < cap → c < 256 ∧ f k = nI c := fun k => by
    by_cases hk : k < cap
    · obtain ⟨c, hc⟩ := h6 k hk
      exact ⟨c, fun _ => hc⟩
    · exact ⟨0, fun h => absurd h hk⟩
  obtain ⟨g, hg⟩ := Classical.axiomOfChoice hbn
  have hr' : RowAt (sm_w h r (.inr (4, [.ref (r + 1), .int (nI (b - a))]))) r cap ((List.range (b - a)).map g) := by
    have hnA : ∀ k, k < b - a → nA ((List.range (b - a)).map g) k = g k := fun k hk => by
      unfold nA
      rw [List.getD_eq_getElem?_getD, List.getElem?_map, List.getElem?_range hk]
      rfl
    refine ⟨by rw [w_eq, List.length_map, List.length_range], ⟨by rw [List.length_map, List.length_range]; exact hc, h3, fun k => ?_⟩, f, by rw [w_ne (by omega)]; exact h5, h6, fun k hk => ?_⟩
    · by_cases hk : k < b - a
      · rw [hnA k hk]; exact (hg k (by omega)).1
      · rw [nA_out (by rw [List.length_map, List.length_range]; omega)]; omega
    · rw [List.length_map, List.length_range] at hk
      rw [hnA k hk]
      exact (hg k (by omega)).2
  obtain ⟨h', e, hr'', fr⟩ := m45_loop (X := X) (tx := tx) (tg := (tx.drop a).take (b - a)) (a := a) hd (by omega) (fun k hk => nA_take (by omega)) (b - a) 0 (by omega) _ _ hr' (by rw [List.length_map, List.length_range, hlen]) (fun j h => by omega) (ht.kept (w_ne (by omega)) (w_ne (by omega)))
  refine ⟨h', ?_, hr'', Fr.w.tr fr (by omega) (by omega) (by omega) (by omega)⟩
  simp only [c45, b45_0, sm_gI_s, sm_gR_s, sm_gJ_s, sm_cR_s, sm_al_s, sm_sw_s, sm_tl1, sm_tl0, sm_ap0, sm_ap1, List.getElem?_cons_zero, List.getElem?_cons_succ, nk10, nk11, if_true, eq_self, fO h1, aO h5, pk_sub hab]
  rw [if_neg (nI_nlt (show b - a ≤ cap by omega) (by omega)), pO h1 (by show 1 < 2; omega)]
  by_cases hz : 0 < b - a
  · rw [if_pos (nI_lt hz (by omega))]
    exact e
  · rw [if_neg (nI_nlt (by omega) (by omega))]
    rw [show b - a = 0 by omega] at e
    exact e
