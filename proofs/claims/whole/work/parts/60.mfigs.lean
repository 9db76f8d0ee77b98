/-! DOUBT by FIGURES of the reference -/
def alD (a b : Nat) : Bool := decide (10 * (if b ≤ a then b else a) + (if b ≤ a then a else b) ∈ [6, 8, 17, 38, 49, 56, 68])
theorem ak_d : ∀ a, a < 10 → ∀ b, b < 10 → ak (48 + a) (48 + b) = alD a b := by decide +kernel
theorem ak_self : ∀ a, a < 10 → ak (48 + a) (48 + a) = false := by decide +kernel
theorem m131 {X : smX} {h : smH} {a b : Nat} (ha : a < 10) (hb : b < 10) : sm_C PP X 131 [.int (nI a), .int (nI b)] h = some (some (.int (bI (ak (48 + a) (48 + b)))), h) := by
  rw [ak_d a ha b hb]
  have fin : ∀ x y : Nat, x < 10 → y < 10 → sm_E PP X 131 21 [(2, .int (nI x))] [.int (nI y)] h = some (some (.int (bI (decide (10 * x + y ∈ [6, 8, 17, 38, 49, 56, 68])))), h) := fun x y hx hy => by
    rw [b131_21]
    simp only [pk_mul, nI_add, b131_79, b131_84, nkb, nI_eq (show 10 * x + y < 2 ^ 31 by omega) (show 6 < 2 ^ 31 by omega), nI_eq (show 10 * x + y < 2 ^ 31 by omega) (show 8 < 2 ^ 31 by omega), nI_eq (show 10 * x + y < 2 ^ 31 by omega) (show 17 < 2 ^ 31 by omega), nI_eq (show 10 * x + y < 2 ^ 31 by omega) (show 38 < 2 ^ 31 by omega), nI_eq (show 10 * x + y < 2 ^ 31 by omega) (show 49 < 2 ^ 31 by omega), nI_eq (show 10 * x + y < 2 ^ 31 by omega) (show 56 < 2 ^ 31 by omega), nI_eq (show 10 * x + y < 2 ^ 31 by omega) (show 68 < 2 ^ 31 by omega), if_pos nk10, if_pos nk11]
    by_cases g : 10 * x + y ∈ [6, 8, 17, 38, 49, 56, 68]
    · rw [decide_eq_true g]
      simp only [List.mem_cons, List.not_mem_nil, or_false] at g
      rcases g with g | g | g | g | g | g | g <;> simp [g, bI]
    · rw [decide_eq_false g]
      simp only [List.mem_cons, List.not_mem_nil, or_false, not_or] at g
      simp [g, bI]
  rw [c131, b131_0]
  unfold alD
  by_cases h1 : b ≤ a
  · rw [if_pos (nI_le h1 (by omega)), b131_10, if_pos (nI_le h1 (by omega)), fin b a hb ha, if_pos h1, if_pos h1]
  · rw [if_neg (nI_ge (by omega) (by omega)), b131_10, if_neg (nI_ge (by omega) (by omega)), fin a b ha hb, if_neg h1, if_neg h1]
theorem m132_loop {X : smX} {h : smH} {M d l q x : Nat} {fs : List Nat} {f : Nat → Int32} (a : MObj h M d l q) (c1 : IA h (M + 1) 219 f) (hx : x + 1 + fs.length ≤ 219) (hA : ∀ k, k < fs.length → nA fs k = 63 ∨ (48 ≤ nA fs k ∧ nA fs k ≤ 57)) (p2 : ∀ k, k < fs.length → f (x + 1 + k) = nI (nA fs k)) : ∀ (p n s : Nat), p ≤ fs.length → n < 1000 → sm_E PP X 132 53 [(0, .ref M), (3, .int (nI x)), (5, .int (nI s)), (6, .int (nI n)), (7, .int (nI p))] [] h = some (some (.int (oI (dfS fs p n s))), h) := by
  intro p
  induction p with
  | zero =>
    intro n s hp hn
    rw [b132_53, if_pos (by decide)]
    rfl
  | succ p ih =>
    intro n s hp hn
    have hk := hA p (by omega)
    rw [b132_53, if_neg (nI_nle (by omega) (by omega))]
    simp only [fO a, sm_gI_s, sm_gR_s, sm_gJ_s, sm_cR_s, sm_al_s, sm_sw_s, sm_tl1, sm_tl0, sm_ap0, sm_ap1, List.getElem?_cons_zero, List.getElem?_cons_succ, nk10, nk11, if_true, eq_self, nI_add, if_neg (show ¬ (nI 10 : Int32) = 0 by decide), pk_div (show n < 2 ^ 31 by omega) (show 0 < 10 by omega) (show 10 < 2 ^ 31 by omega), rem2 (show n < 2 ^ 31 by omega) (show 0 < 10 by omega) (show 10 < 2 ^ 31 by omega)]
    rw [aO c1, ldO (by omega) (by omega), show x + (p + 1) = x + 1 + p by omega, p2 p (by omega)]
    have st : ∀ v, sm_E PP X 132 144 [(0, .ref M), (3, .int (nI x)), (6, .int (nI (n / 10))), (7, .int (nI (p + 1)))] [.int (nI v), .int (nI s)] h = some (some (.int (oI (dfS fs p (n / 10) (s + v)))), h) := fun v => by
      rw [b132_144, nI_add, pk_m1']
      exact ih (n / 10) (s + v) (by omega) (by omega)
    simp only [nI_eq (show nA fs p < 2 ^ 31 by omega) (show 63 < 2 ^ 31 by omega), b132_116, b132_110]
    unfold dfS
    by_cases h63 : nA fs p = 63
    · rw [if_pos h63, if_pos h63, if_pos h63, st]
    · have h48 : 48 ≤ nA fs p := by omega
      have e0 : 48 + (nA fs p - 48) = nA fs p := by omega
      have hak := m131 (X := X) (h := h) (a := nA fs p - 48) (b := n % 10) (by omega) (by omega)
      rw [e0] at hak
      rw [if_neg h63, if_neg h63, if_neg h63, pk_sub h48, hak]
      simp only [nI_eq (show nA fs p - 48 < 2 ^ 31 by omega) (show n % 10 < 2 ^ 31 by omega), sm_gI_s, sm_gR_s, sm_gJ_s, sm_cR_s, sm_al_s, sm_sw_s, sm_tl1, sm_tl0, sm_ap0, sm_ap1, List.getElem?_cons_zero, List.getElem?_cons_succ, nk10, nk11, if_true, eq_self, b132_110, bI_0, b132_116, nI_eq (show nA fs p < 2 ^ 31 by omega) (show 63 < 2 ^ 31 by omega), pk_sub h48]
      by_cases he : nA fs p - 48 = n % 10
      · rw [if_pos he, if_pos he, st]
        have := ak_self (n % 10) (by omega)
        rw [← he, e0] at this
        rw [← he, e0, if_neg (by rw [this]; decide), if_pos rfl, Nat.add_zero]
      · rw [if_neg he, if_neg (show ¬ nA fs p = 48 + n % 10 by omega), if_neg h63, if_neg he]
        cases hz : ak (nA fs p) (48 + n % 10) with
        | true => rw [if_neg (show ¬ (true = false) by decide), if_pos rfl, st]
        | false => rw [if_pos rfl, if_neg (show ¬ (false = true) by decide)]; rfl
theorem m132 {X : smX} {h : smH} {M e n : Nat} {st : St} (r : RepM h M st) (he : e < st.2.1.1.length) (hn : n < 1000) : sm_C PP X 132 [.ref M, .int (nI e), .int (nI n)] h = some (some (.int (oI (dF (en st.2.1 e).2 n))), h) := by
  obtain ⟨⟨q, a⟩, -, ⟨f, c1, c2⟩, -⟩ := r
  have h6 := c2.2.2.2.1.1
  obtain ⟨c3, c4⟩ := c2.2.2.2.2 e he
  obtain ⟨p1, p2⟩ := c3.part (s := st.2.1) (e := e) (j := 1) (by omega)
  have hrow : rowF st.2.1 e 1 = (en st.2.1 e).2 := rfl
  rw [hrow] at p1 p2
  have l3 := c4.2.1
  have hfl : fl n ≤ 3 := by unfold fl; split; omega; split <;> omega
  have hE : sm_C PP X 132 [.ref M, .int (nI e), .int (nI n)] h = sm_E PP X 132 27 [(0, .ref M), (2, .int (nI n)), (3, .int (nI (3 + 36 * e + 32 * 1)))] [.int (nI (fl n))] h := by
    rw [c132, b132_0, m118 (by omega) (by omega)]
    simp only [sm_gI_s, sm_gR_s, sm_gJ_s, sm_cR_s, sm_al_s, sm_sw_s, sm_tl1, sm_tl0, sm_ap0, sm_ap1, List.getElem?_cons_zero, List.getElem?_cons_succ, nk10, nk11, if_true, eq_self, b132_5]
    unfold fl
    by_cases h1 : n < 10
    · rw [if_neg (nI_ge h1 (by omega)), if_pos h1]
    · rw [if_pos (nI_le (by omega) (by omega)), if_neg h1]
      by_cases h2 : n < 100
      · rw [if_neg (nI_ge h2 (by omega)), if_pos h2]
      · rw [if_pos (nI_le (by omega) (by omega)), if_neg h2]
  rw [hE, b132_27]
  simp only [fO a, sm_gI_s, sm_gR_s, sm_gJ_s, sm_cR_s, sm_al_s, sm_sw_s, sm_tl1, sm_tl0, sm_ap0, sm_ap1, List.getElem?_cons_zero, List.getElem?_cons_succ, nk10, nk11, if_true, eq_self]
  rw [aO c1, ldO (show 3 + 36 * e + 32 * 1 < 219 by omega) (by omega), p1]
  unfold dF
  by_cases hc : (en st.2.1 e).2.length = fl n
  · rw [if_pos (by rw [hc]), if_pos hc, ← hc]
    exact m132_loop a c1 (by omega) c4.2.2.2.2 p2 _ n 0 (Nat.le_refl _) hn
  · rw [if_neg (fun q => hc ((nI_eq (by omega) (by omega)).mp q).symm), if_neg hc]
    rfl
