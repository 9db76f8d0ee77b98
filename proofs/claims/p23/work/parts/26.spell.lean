/-! how NUMBERS are written -/
def spB (n : Nat) : List Nat := if n < 10 then nth (stN 0) 0 n else nth (stN 1) 0 (n - 10)
def spT (n : Nat) : List Nat := if n < 20 then spB n else if n % 10 = 0 then nth (stN 2) 0 (n / 10 - 2) else nth (stN 2) 0 (n / 10 - 2) ++ [32] ++ spB (n % 10)
def spN (n : Nat) : List Nat := if n < 100 then spT n else if n % 100 = 0 then spB (n / 100) ++ stN 3 else spB (n / 100) ++ stN 3 ++ stN 4 ++ spT (n % 100)
theorem spN_all : (List.range 1000).all (fun n => decide ((spN n).length ≤ 31) && (spN n).all (fun c => decide (97 ≤ c ∧ c ≤ 122 ∨ c = 32))) = true := by decide +kernel
theorem spN_len {n : Nat} (hn : n < 1000) : (spN n).length ≤ 31 := by
  have := List.all_eq_true.mp spN_all n (List.mem_range.mpr hn)
  rw [Bool.and_eq_true] at this
  exact of_decide_eq_true this.1
theorem spN_let {n k : Nat} (hn : n < 1000) (hk : k < (spN n).length) : 97 ≤ nA (spN n) k ∧ nA (spN n) k ≤ 122 ∨ nA (spN n) k = 32 := by
  have := List.all_eq_true.mp spN_all n (List.mem_range.mpr hn)
  rw [Bool.and_eq_true] at this
  have h2 := List.all_eq_true.mp this.2 (nA (spN n) k) (by
    unfold nA
    rw [List.getD_eq_getElem?_getD, List.getElem?_eq_getElem hk]
    exact List.getElem_mem hk)
  exact of_decide_eq_true h2
theorem rem2 {a d : Nat} (ha : a < 2 ^ 31) (h0 : 0 < d) (hd : d < 2 ^ 31) : nI a - nI (a / d) * nI d = nI (a % d) := by
  rw [← pk_div ha h0 hd, pk_rem ha h0 hd]
theorem Fr.s {h h1 h2 : smH} {lo hi : Nat} (f1 : Fr h h1 lo hi) (f2 : Fr h1 h2 lo hi) : Fr h h2 lo hi := f1.tr f2 (Nat.le_refl _) (Nat.le_refl _) (Nat.le_refl _) (Nat.le_refl _)
theorem uP_s {T : Nat → List Nat} {n : Nat} {a b : List Nat} : uP (uP T n a) n (uP T n a n ++ b) = uP T n (a ++ b) := by
  funext j
  unfold uP
  split
  · rw [if_pos rfl]
  · rfl
theorem uP_0 {T : Nat → List Nat} {n : Nat} {b : List Nat} (h : T n = []) : uP T n (T n ++ b) = uP T n b := by rw [h]; rfl

theorem m19 {X : smX} {h : smH} {N n : Nat} {T} (r : NWAt h N T) (h0 : T n = []) (hT : ∀ j, j < n → T j = spN j) (h1 : 20 ≤ n) (h2 : n < 100) : ∃ h', sm_C PP X 19 [.ref N, .int (nI n)] h = some (none, h') ∧ NWAt h' N (uP T n (spN n)) ∧ Fr h h' N (N + 3) := by
  have hl := spN_len (show n < 1000 by omega)
  have hs : spN n = if n % 10 = 0 then nth (stN 2) 0 (n / 10 - 2) else nth (stN 2) 0 (n / 10 - 2) ++ [32] ++ spB (n % 10) := by
    unfold spN spT
    rw [if_pos h2, if_neg (by omega)]
  simp only [c19, b19_0, sm_gI_s, sm_gR_s, sm_gJ_s, sm_cR_s, sm_al_s, sm_sw_s, sm_tl1, sm_tl0, sm_ap0, sm_ap1, List.getElem?_cons_zero, List.getElem?_cons_succ, nk10, nk11, if_true, eq_self, vO r.1, rem2 (show n < 2 ^ 31 by omega) (show 0 < 10 by omega) (show 10 < 2 ^ 31 by omega), pk_div (show n < 2 ^ 31 by omega) (show 0 < 10 by omega) (show 10 < 2 ^ 31 by omega), pk_sub (show 2 ≤ n / 10 by omega), pk_sub (show n % 10 ≤ n by omega), if_neg (show ¬ (nI 10 : Int32) = 0 by decide)]
  by_cases hz : n % 10 = 0
  · rw [if_pos hz] at hs
    rw [hz, if_pos (show (nI 0 : Int32) = 0 by decide)]
    obtain ⟨h', e, q, f⟩ := m15 (X := X) (t := 2) (w := n / 10 - 2) (by omega) (show n < 1000 by omega) (by omega) r (by rw [h0, ← hs]; show 0 + _ ≤ 31; omega)
    rw [uP_0 h0, ← hs] at q
    refine ⟨h', ?_, q, f⟩
    rw [e]
    simp only [sm_gI_s, sm_gR_s, sm_gJ_s, sm_cR_s, sm_al_s, sm_sw_s, sm_tl1, sm_tl0, sm_ap0, sm_ap1, List.getElem?_cons_zero, List.getElem?_cons_succ, nk10, nk11, if_true, eq_self, b19_22]
  · rw [if_neg hz] at hs
    rw [if_neg (nI_ne0 (show 0 < n % 10 by omega) (by omega))]
    have hs1 : spN (n - n % 10) = nth (stN 2) 0 (n / 10 - 2) := by
      unfold spN spT
      rw [if_pos (by omega), if_neg (by omega), if_pos (by omega), show (n - n % 10) / 10 - 2 = n / 10 - 2 by omega]
    have hs2 : spN (n % 10) = spB (n % 10) := by
      unfold spN spT
      rw [if_pos (by omega), if_pos (by omega)]
    have hl2 := hl
    rw [hs, List.length_append, List.length_append] at hl2
    have hl3 : (nth (stN 2) 0 (n / 10 - 2)).length + 1 + (spB (n % 10)).length ≤ 31 := hl2
    obtain ⟨ha, ea, qa, fa⟩ := m18 (X := X) (show n < 1000 by omega) (show n - n % 10 < 1000 by omega) (by omega) r (by rw [h0, hT _ (by omega), hs1]; show 0 + _ ≤ 31; omega)
    rw [uP_0 h0, hT _ (by omega), hs1] at qa
    obtain ⟨hb, eb, qb, fb⟩ := m14 (X := X) (c := 32) qa (show n < 1000 by omega) (by omega) (by rw [uP_eq]; omega)
    rw [uP_s] at qb
    obtain ⟨hc, ec, qc, fc⟩ := m18 (X := X) (show n < 1000 by omega) (show n % 10 < 1000 by omega) (by omega) qb (by rw [uP_eq, uP_ne (by omega), hT _ (by omega), hs2, List.length_append]; show _ + 1 + _ ≤ 31; omega)
    rw [uP_s, uP_ne (by omega), hT _ (by omega), hs2, ← hs] at qc
    refine ⟨hc, ?_, qc, (fa.s fb).s fc⟩
    rw [ea]
    simp only [sm_gI_s, sm_gR_s, sm_gJ_s, sm_cR_s, sm_al_s, sm_sw_s, sm_tl1, sm_tl0, sm_ap0, sm_ap1, List.getElem?_cons_zero, List.getElem?_cons_succ, nk10, nk11, if_true, eq_self, b19_31, vO qa.1, eb, b19_38, vO qb.1, ec, b19_44]
theorem m21 {X : smX} {h : smH} {N n : Nat} {T} (r : NWAt h N T) (h0 : T n = []) (hT : ∀ j, j < n → T j = spN j) (h1 : 100 ≤ n) (h2 : n < 1000) : ∃ h', sm_C PP X 21 [.ref N, .int (nI n)] h = some (none, h') ∧ NWAt h' N (uP T n (spN n)) ∧ Fr h h' N (N + 3) := by
  have hl := spN_len (show n < 1000 by omega)
  have hs : spN n = if n % 100 = 0 then spB (n / 100) ++ stN 3 else spB (n / 100) ++ stN 3 ++ stN 4 ++ spT (n % 100) := by
    unfold spN
    rw [if_neg (by omega)]
  have hs1 : spN (n / 100) = spB (n / 100) := by
    unfold spN spT
    rw [if_pos (by omega), if_pos (by omega)]
  have hs2 : spN (n % 100) = spT (n % 100) := by
    unfold spN
    rw [if_pos (by omega)]
  have hl1 : (spB (n / 100)).length + (stN 3).length ≤ 31 := by
    rw [hs] at hl
    split at hl
    · rw [List.length_append] at hl; exact hl
    · rw [List.length_append, List.length_append, List.length_append] at hl; omega
  obtain ⟨ha, ea, qa, fa⟩ := m18 (X := X) (show n < 1000 by omega) (show n / 100 < 1000 by omega) (by omega) r (by rw [h0, hT _ (by omega), hs1]; show 0 + _ ≤ 31; omega)
  rw [uP_0 h0, hT _ (by omega), hs1] at qa
  obtain ⟨hb, eb, qb, fb⟩ := m20 (X := X) (t := 3) (by omega) (show n < 1000 by omega) qa (by rw [uP_eq]; omega)
  rw [uP_s] at qb
  simp only [c21, b21_0, sm_gI_s, sm_gR_s, sm_gJ_s, sm_cR_s, sm_al_s, sm_sw_s, sm_tl1, sm_tl0, sm_ap0, sm_ap1, List.getElem?_cons_zero, List.getElem?_cons_succ, nk10, nk11, if_true, eq_self, vO r.1, rem2 (show n < 2 ^ 31 by omega) (show 0 < 100 by omega) (show 100 < 2 ^ 31 by omega), pk_div (show n < 2 ^ 31 by omega) (show 0 < 100 by omega) (show 100 < 2 ^ 31 by omega), if_neg (show ¬ (nI 100 : Int32) = 0 by decide), ea]
  simp only [sm_gI_s, sm_gR_s, sm_gJ_s, sm_cR_s, sm_al_s, sm_sw_s, sm_tl1, sm_tl0, sm_ap0, sm_ap1, List.getElem?_cons_zero, List.getElem?_cons_succ, nk10, nk11, if_true, eq_self, b21_14, vO qa.1, eb, b21_21, vO qb.1]
  by_cases hz : n % 100 = 0
  · rw [if_pos hz] at hs
    rw [hz, if_pos (show (nI 0 : Int32) = 0 by decide), b21_38]
    rw [← hs] at qb
    exact ⟨hb, rfl, qb, fa.s fb⟩
  · rw [if_neg hz] at hs
    rw [if_neg (nI_ne0 (show 0 < n % 100 by omega) (by omega))]
    rw [hs, List.length_append, List.length_append, List.length_append] at hl
    obtain ⟨hc, ec, qc, fc⟩ := m20 (X := X) (t := 4) (by omega) (show n < 1000 by omega) qb (by rw [uP_eq, List.length_append]; omega)
    rw [uP_s] at qc
    obtain ⟨hd, ed, qd, fd⟩ := m18 (X := X) (show n < 1000 by omega) (show n % 100 < 1000 by omega) (by omega) qc (by rw [uP_eq, uP_ne (by omega), hT _ (by omega), hs2, List.length_append, List.length_append]; omega)
    rw [uP_s, uP_ne (by omega), hT _ (by omega), hs2, ← hs] at qd
    refine ⟨hd, ?_, qd, ((fa.s fb).s fc).s fd⟩
    rw [ec]
    simp only [sm_gI_s, sm_gR_s, sm_gJ_s, sm_cR_s, sm_al_s, sm_sw_s, sm_tl1, sm_tl0, sm_ap0, sm_ap1, List.getElem?_cons_zero, List.getElem?_cons_succ, nk10, nk11, if_true, eq_self, b21_32, vO qc.1, ed, b21_38]
theorem m22 {X : smX} {h : smH} {N n : Nat} {T} (r : NWAt h N T) (h0 : T n = []) (hT : ∀ j, j < n → T j = spN j) (h2 : n < 1000) : ∃ h', sm_C PP X 22 [.ref N, .int (nI n)] h = some (none, h') ∧ NWAt h' N (uP T n (spN n)) ∧ Fr h h' N (N + 3) := by
  have hl := spN_len (show n < 1000 by omega)
  rw [c22, b22_0]
  simp only [vO r.1]
  by_cases h3 : n < 10
  · have hs : spN n = nth (stN 0) 0 n := by
      unfold spN spT spB
      rw [if_pos (by omega), if_pos (by omega), if_pos (by omega)]
    obtain ⟨h', e, q, f⟩ := m15 (X := X) (t := 0) (w := n) (by omega) h2 h2 r (by rw [h0, ← hs]; show 0 + _ ≤ 31; omega)
    rw [uP_0 h0, ← hs] at q
    refine ⟨h', ?_, q, f⟩
    rw [if_neg (nI_ge h3 (by omega)), e]
    simp only [sm_gI_s, sm_gR_s, sm_gJ_s, sm_cR_s, sm_al_s, sm_sw_s, sm_tl1, sm_tl0, sm_ap0, sm_ap1, List.getElem?_cons_zero, List.getElem?_cons_succ, nk10, nk11, if_true, eq_self, b22_14, b22_56]
  · rw [if_pos (nI_le (by omega) (by omega))]
    by_cases h4 : n < 20
    · have hs : spN n = nth (stN 1) 0 (n - 10) := by
        unfold spN spT spB
        rw [if_pos (by omega), if_pos (by omega), if_neg (by omega)]
      obtain ⟨h', e, q, f⟩ := m15 (X := X) (t := 1) (w := n - 10) (by omega) h2 (by omega) r (by rw [h0, ← hs]; show 0 + _ ≤ 31; omega)
      rw [uP_0 h0, ← hs] at q
      refine ⟨h', ?_, q, f⟩
      rw [if_neg (nI_ge h4 (by omega)), pk_sub (by omega), e]
      simp only [sm_gI_s, sm_gR_s, sm_gJ_s, sm_cR_s, sm_al_s, sm_sw_s, sm_tl1, sm_tl0, sm_ap0, sm_ap1, List.getElem?_cons_zero, List.getElem?_cons_succ, nk10, nk11, if_true, eq_self, b22_34, b22_56]
    · rw [if_pos (nI_le (by omega) (by omega))]
      by_cases h5 : n < 100
      · obtain ⟨h', e, q, f⟩ := m19 (X := X) r h0 hT (by omega) h5
        refine ⟨h', ?_, q, f⟩
        rw [if_neg (nI_ge h5 (by omega)), e]
        simp only [sm_gI_s, sm_gR_s, sm_gJ_s, sm_cR_s, sm_al_s, sm_sw_s, sm_tl1, sm_tl0, sm_ap0, sm_ap1, List.getElem?_cons_zero, List.getElem?_cons_succ, nk10, nk11, if_true, eq_self, b22_48, b22_56]
      · obtain ⟨h', e, q, f⟩ := m21 (X := X) r h0 hT (by omega) h2
        refine ⟨h', ?_, q, f⟩
        rw [if_pos (nI_le (by omega) (by omega)), e]
        simp only [sm_gI_s, sm_gR_s, sm_gJ_s, sm_cR_s, sm_al_s, sm_sw_s, sm_tl1, sm_tl0, sm_ap0, sm_ap1, List.getElem?_cons_zero, List.getElem?_cons_succ, nk10, nk11, if_true, eq_self, b22_56]
theorem m23_loop {X : smX} {N : Nat} : ∀ (d n : Nat), n + d = 1000 → ∀ (h : smH) (T : Nat → List Nat), NWAt h N T → (∀ j, j < n → T j = spN j) → (∀ j, n ≤ j → j < 1000 → T j = []) → ∃ h', sm_E PP X 23 24 [(0, .ref N), (1, .int (nI n))] [] h = some (none, h') ∧ NWAt h' N spN ∧ Fr h h' N (N + 3) := by
  intro d
  induction d with
  | zero =>
    intro n hn h T r h1 h2
    refine ⟨h, ?_, ?_, Fr.rf⟩
    · rw [b23_24, if_pos (nI_le (by omega) (by omega))]
    · obtain ⟨a, fs, fl, b, c, q⟩ := r
      exact ⟨a, fs, fl, b, c, fun j hj => by rw [← h1 j (by omega)]; exact q j hj⟩
  | succ d ih =>
    intro n hn h T r h1 h2
    obtain ⟨ha, ea, qa, fa⟩ := m22 (X := X) r (h2 n (by omega) (by omega)) h1 (by omega)
    obtain ⟨hb, eb, qb, fb⟩ := ih (n + 1) (by omega) ha _ qa (fun j hj => by
      by_cases e : j = n
      · rw [e, uP_eq]
      · rw [uP_ne e]; exact h1 j (by omega)) (fun j hj hj2 => by rw [uP_ne (by omega)]; exact h2 j (by omega) hj2)
    refine ⟨hb, ?_, qb, fa.s fb⟩
    rw [b23_24, if_neg (nI_ge (by omega) (by omega)), vO r.1, ea]
    simp only [sm_gI_s, sm_gR_s, sm_gJ_s, sm_cR_s, sm_al_s, sm_sw_s, sm_tl1, sm_tl0, sm_ap0, sm_ap1, List.getElem?_cons_zero, List.getElem?_cons_succ, nk10, nk11, if_true, eq_self, b23_36, nI_add, eb]

