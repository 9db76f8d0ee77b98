/-! DOUBT by WORDS, by FIGURES -/
def dwS (ws nd : List Nat) : Nat → Nat → Nat → Nat → Option (Nat × Nat)
  | 0, _, d, o => some (d, o)
  | r + 1, p, d, o => if (nA ws p = 32) ↔ (nA nd p = 32) then (if nA ws p = 63 then dwS ws nd r (p + 1) (d + 1) o else if nA ws p = nA nd p then dwS ws nd r (p + 1) d o else dwS ws nd r (p + 1) (d + 3) (o + 1)) else none
def dW (ws : List Nat) (sl n : Nat) : Option Nat := if ws.length = (spN n).length then (match dwS ws (spN n) ws.length 0 0 0 with
  | none => none
  | some (d, o) => if o ≤ sl then some d else none) else none
theorem oIs {k : Nat} : oI (some k) = nI k := rfl
theorem m62_loop {X : smX} {h : smH} {N w cap n sl : Nat} {ws : List Nat} (r : NWAt h N spN) (rw1 : RowAt h w cap ws) (hn : n < 1000) (hsl : sl ≤ 2) (hl : ws.length = (spN n).length) : ∀ (d p a b : Nat), p + d = ws.length → a ≤ 3 * p → b ≤ p → sm_E PP X 62 24 [(0, .ref N), (1, .ref w), (2, .int (nI sl)), (3, .int (nI n)), (4, .int (nI a)), (5, .int (nI b)), (6, .int (nI p))] [] h = some (some (.int (oI (match dwS ws (spN n) d p a b with
  | none => none
  | some (x, o) => if o ≤ sl then some x else none))), h) := by
  intro d
  have h31 := rw1.2.1
  induction d with
  | zero =>
    intro p a b hp ha hb
    rw [b62_24]
    simp only [sm_gI_s, sm_gR_s, sm_gJ_s, sm_cR_s, sm_al_s, sm_sw_s, sm_tl1, sm_tl0, sm_ap0, sm_ap1, List.getElem?_cons_zero, List.getElem?_cons_succ, nk10, nk11, if_true, eq_self, fO rw1.1, b62_125]
    rw [if_pos (nI_le (by omega) (by omega))]
    unfold dwS
    dsimp only
    by_cases hc : b ≤ sl
    · rw [if_neg (nI_nlt hc (by omega)), if_pos hc]; rfl
    · rw [if_pos (nI_lt (by omega) (by omega)), if_neg hc]; rfl
  | succ d ih =>
    intro p a b hp ha hb
    have hA := rw1.2.1.2.2 p
    have hB := spN_let hn (k := p) (by omega)
    rw [b62_24]
    simp only [sm_gI_s, sm_gR_s, sm_gJ_s, sm_cR_s, sm_al_s, sm_sw_s, sm_tl1, sm_tl0, sm_ap0, sm_ap1, List.getElem?_cons_zero, List.getElem?_cons_succ, nk10, nk11, if_true, eq_self, fO rw1.1, vO rw1.1, vO r.1, m37k rw1 (show p < ws.length by omega), b62_39, m17 r hn (show p < 2 ^ 31 by omega), if_pos (show p < (spN n).length by omega), b62_48, b62_62, b62_74, b62_106, nI_eq (show nA ws p < 2 ^ 31 by omega) (show 32 < 2 ^ 31 by omega), nI_eq (show nA (spN n) p < 2 ^ 31 by omega) (show 32 < 2 ^ 31 by omega), nI_eq (show nA ws p < 2 ^ 31 by omega) (show 63 < 2 ^ 31 by omega), nI_eq (show nA ws p < 2 ^ 31 by omega) (show nA (spN n) p < 2 ^ 31 by omega), nI_add]
    rw [if_neg (nI_ge (by omega) (by omega))]
    unfold dwS
    by_cases h1 : nA ws p = 32
    · by_cases h2 : nA (spN n) p = 32
      · simp only [if_pos h1, if_pos h2, if_pos (show (nA ws p = 32) ↔ (nA (spN n) p = 32) by omega), if_true]
        rw [if_neg (by omega), if_pos (by omega), if_neg (by omega), if_pos (by omega)]
        exact ih (p + 1) a b (by omega) (by omega) (by omega)
      · simp only [if_pos h1, if_neg h2, if_neg (show ¬ ((nA ws p = 32) ↔ (nA (spN n) p = 32)) by omega)]
        rw [if_neg (by decide)]
        rfl
    · by_cases h2 : nA (spN n) p = 32
      · simp only [if_neg h1, if_pos h2, if_neg (show ¬ ((nA ws p = 32) ↔ (nA (spN n) p = 32)) by omega)]
        rw [if_neg (by decide)]
        rfl
      · simp only [if_neg h1, if_neg h2, if_pos (show (nA ws p = 32) ↔ (nA (spN n) p = 32) by omega), if_true]
        by_cases h3 : nA ws p = 63
        · rw [if_pos h3, if_pos h3]
          exact ih (p + 1) (a + 1) b (by omega) (by omega) (by omega)
        · rw [if_neg h3, if_neg h3]
          by_cases h4 : nA ws p = nA (spN n) p
          · rw [if_pos h4, if_pos h4]
            exact ih (p + 1) a b (by omega) (by omega) (by omega)
          · rw [if_neg h4, if_neg h4]
            exact ih (p + 1) (a + 3) (b + 1) (by omega) (by omega) (by omega)
theorem m62 {X : smX} {h : smH} {N w cap n sl : Nat} {ws : List Nat} (r : NWAt h N spN) (rw1 : RowAt h w cap ws) (hn : n < 1000) (hsl : sl ≤ 2) : sm_C PP X 62 [.ref N, .ref w, .int (nI sl), .int (nI n)] h = some (some (.int (oI (dW ws sl n))), h) := by
  have h31 := rw1.2.1
  have hl := spN_len hn
  simp only [c62, b62_0, sm_gI_s, sm_gR_s, sm_gJ_s, sm_cR_s, sm_al_s, sm_sw_s, sm_tl1, sm_tl0, sm_ap0, sm_ap1, List.getElem?_cons_zero, List.getElem?_cons_succ, nk10, nk11, if_true, eq_self, fO rw1.1, vO r.1, m16 r hn, b62_9]
  unfold dW
  by_cases hc : ws.length = (spN n).length
  · rw [if_pos ((nI_eq (by omega) (by omega)).mpr hc), if_pos hc]
    exact m62_loop r rw1 hn hsl hc ws.length 0 0 0 (by omega) (by omega) (by omega)
  · rw [if_neg (fun e => hc ((nI_eq (by omega) (by omega)).mp e)), if_neg hc]
    rfl
def fl (n : Nat) : Nat := if n < 10 then 1 else if n < 100 then 2 else 3
theorem m63 {X : smX} {h : smH} {n : Nat} (hn : n < 1000) : sm_C PP X 63 [.int (nI n)] h = some (some (.int (nI (fl n))), h) := by
  rw [c63, b63_0]
  unfold fl
  by_cases h1 : n < 10
  · rw [if_neg (nI_ge h1 (by omega)), if_pos h1]
  · rw [if_pos (nI_le (by omega) (by omega)), if_neg h1]
    by_cases h2 : n < 100
    · rw [if_neg (nI_ge h2 (by omega)), if_pos h2, b63_19]
    · rw [if_pos (nI_le (by omega) (by omega)), if_neg h2, b63_19]
/-- the pairs that look alike, from the i-th on, r of them left -/
def akS (lo hi : Nat) : Nat → Nat → Bool
  | 0, _ => false
  | r + 1, i => if nA (stN 5) (2 * i) = lo ∧ nA (stN 5) (2 * i + 1) = hi then true else akS lo hi r (i + 1)
def ak (a b : Nat) : Bool := akS (if b < a then b else a) (if a < b then b else a) 7 0
theorem m64_loop {X : smX} {h : smH} {lo hi : Nat} (h1 : lo < 256) (h2 : hi < 256) : ∀ r i : Nat, i + r = 7 → sm_E PP X 64 15 [(2, .int (nI lo)), (3, .int (nI hi)), (4, .int (nI (2 * i)))] [] h = some (some (.int (bI (akS lo hi r i))), h) := by
  intro r
  obtain ⟨g0, -, hb, -, -⟩ := st_ok (X := (0, fun _ => 0)) (h := (fun _ => none, 0, 0)) 5 (by omega)
  have b := st_ok (X := (0, fun _ => 0)) (h := (fun _ => none, 0, 0)) 5 (by omega)
  have hlen : (stN 5).length = 14 := rfl
  have hlt : ∀ j, j < 14 → nA (stN 5) j < 128 := by
    obtain ⟨g, -, b, -⟩ := b
    exact fun j hj => (b j (by omega)).2
  have hbl : Nat.blt 5 PP.2.2.2.2.1.length = true := rfl
  induction r with
  | zero =>
    intro i hir
    rw [b64_15, hbl, m7 (show 5 < 6 by omega), hlen]
    simp only [cond_true, sm_gI_s, sm_gR_s, sm_gJ_s, sm_cR_s, sm_al_s, sm_sw_s, sm_tl1, sm_tl0, sm_ap0, sm_ap1, List.getElem?_cons_zero, List.getElem?_cons_succ, nk10, nk11, if_true, eq_self, b64_24, nI_add]
    rw [if_pos (nI_le (by omega) (by omega))]
    rfl
  | succ r ih =>
    intro i hir
    have a1 := hlt (2 * i) (by omega)
    have a2 := hlt (2 * i + 1) (by omega)
    rw [b64_15, hbl, m7 (show 5 < 6 by omega), hlen]
    simp only [cond_true, sm_gI_s, sm_gR_s, sm_gJ_s, sm_cR_s, sm_al_s, sm_sw_s, sm_tl1, sm_tl0, sm_ap0, sm_ap1, List.getElem?_cons_zero, List.getElem?_cons_succ, nk10, nk11, if_true, eq_self, b64_24, hbl, nI_add, m12 (show 5 < 6 by omega) (show 2 * i < (stN 5).length by omega), b64_34, m12 (show 5 < 6 by omega) (show 2 * i + 1 < (stN 5).length by omega), b64_47, b64_53, nI_eq (show nA (stN 5) (2 * i) < 2 ^ 31 by omega) (show lo < 2 ^ 31 by omega), nI_eq (show nA (stN 5) (2 * i + 1) < 2 ^ 31 by omega) (show hi < 2 ^ 31 by omega)]
    rw [if_neg (nI_ge (by omega) (by omega))]
    unfold akS
    by_cases q1 : nA (stN 5) (2 * i) = lo
    · by_cases q2 : nA (stN 5) (2 * i + 1) = hi
      · rw [if_pos q1, if_pos q2, if_pos ⟨q1, q2⟩]; rfl
      · rw [if_pos q1, if_neg q2, if_neg (fun q => q2 q.2)]
        exact ih (i + 1) (by omega)
    · rw [if_neg q1, if_neg (fun q => q1 q.1)]
      exact ih (i + 1) (by omega)
theorem m64 {X : smX} {h : smH} {a b : Nat} (h1 : a < 256) (h2 : b < 256) : sm_C PP X 64 [.int (nI a), .int (nI b)] h = some (some (.int (bI (ak a b))), h) := by
  have e1 : (if nI b < nI a then nI b else nI a) = nI (if b < a then b else a) := by
    simp only [nI_ltI (show b < 2 ^ 31 by omega) (show a < 2 ^ 31 by omega)]
    split <;> rfl
  have e2 : (if nI a < nI b then nI b else nI a) = nI (if a < b then b else a) := by
    simp only [nI_ltI (show a < 2 ^ 31 by omega) (show b < 2 ^ 31 by omega)]
    split <;> rfl
  rw [c64, b64_0, e1, e2]
  exact m64_loop (by split <;> omega) (by split <;> omega) 7 0 (by omega)
def dfS (fs : List Nat) : Nat → Nat → Nat → Option Nat
  | 0, _, d => some d
  | p + 1, l, d => if nA fs p = 63 then dfS fs p (l / 10) (d + 1) else if ak (nA fs p) (48 + l % 10) = true then dfS fs p (l / 10) (d + 2) else if nA fs p = 48 + l % 10 then dfS fs p (l / 10) d else none
def dF (fs : List Nat) (n : Nat) : Option Nat := if fs.length = fl n then dfS fs fs.length n 0 else none
theorem pk_m1' (n : Nat) : nI (n + 1) + -nI 1 = nI n := pk_m1 n
theorem m65_loop {X : smX} {h : smH} {w cap : Nat} {fs : List Nat} (r : RowAt h w cap fs) : ∀ (p l d : Nat), p ≤ fs.length → l < 1000 → sm_E PP X 65 26 [(0, .ref w), (2, .int (nI d)), (3, .int (nI l)), (4, .int (nI p + -nI 1))] [] h = some (some (.int (oI (dfS fs p l d))), h) := by
  intro p
  induction p with
  | zero =>
    intro l d hp hl
    rw [b65_26, if_pos (by decide)]
    rfl
  | succ p ih =>
    intro l d hp hl
    have h31 := r.2.1
    have hA := r.2.1.2.2 p
    rw [b65_26]
    simp only [pk_m1', sm_gI_s, sm_gR_s, sm_gJ_s, sm_cR_s, sm_al_s, sm_sw_s, sm_tl1, sm_tl0, sm_ap0, sm_ap1, List.getElem?_cons_zero, List.getElem?_cons_succ, nk10, nk11, if_true, eq_self, vO r.1, m37k r (show p < fs.length by omega), b65_37, if_neg (show ¬ (nI 10 : Int32) = 0 by decide), pk_div (show l < 2 ^ 31 by omega) (show 0 < 10 by omega) (show 10 < 2 ^ 31 by omega), rem2 (show l < 2 ^ 31 by omega) (show 0 < 10 by omega) (show 10 < 2 ^ 31 by omega), nI_add, m64 hA (show 48 + l % 10 < 256 by omega), b65_73, b65_92, nI_eq (show nA fs p < 2 ^ 31 by omega) (show 63 < 2 ^ 31 by omega), nI_eq (show nA fs p < 2 ^ 31 by omega) (show 48 + l % 10 < 2 ^ 31 by omega), bI_0]
    rw [if_neg (nI_pos (by omega))]
    unfold dfS
    by_cases h1 : nA fs p = 63
    · rw [if_pos h1, if_pos h1]
      exact ih (l / 10) (d + 1) (by omega) (by omega)
    · rw [if_neg h1, if_neg h1]
      cases h2 : ak (nA fs p) (48 + l % 10) with
      | true =>
        rw [if_neg (show ¬ (true = false) by decide), if_pos rfl]
        exact ih (l / 10) (d + 2) (by omega) (by omega)
      | false =>
        rw [if_pos rfl, if_neg (show ¬ (false = true) by decide)]
        by_cases h3 : nA fs p = 48 + l % 10
        · rw [if_pos h3, if_pos h3]
          exact ih (l / 10) d (by omega) (by omega)
        · rw [if_neg h3, if_neg h3]
          rfl
theorem m65 {X : smX} {h : smH} {w cap n : Nat} {fs : List Nat} (r : RowAt h w cap fs) (hn : n < 1000) : sm_C PP X 65 [.ref w, .int (nI n)] h = some (some (.int (oI (dF fs n))), h) := by
  have h31 := r.2.1
  have hf : fl n ≤ 3 := by unfold fl; split; omega; split <;> omega
  simp only [c65, b65_0, sm_gI_s, sm_gR_s, sm_gJ_s, sm_cR_s, sm_al_s, sm_sw_s, sm_tl1, sm_tl0, sm_ap0, sm_ap1, List.getElem?_cons_zero, List.getElem?_cons_succ, nk10, nk11, if_true, eq_self, fO r.1, m63 hn, b65_8]
  unfold dF
  by_cases hc : fs.length = fl n
  · rw [if_pos ((nI_eq (by omega) (by omega)).mpr hc), if_pos hc, Int32.sub_eq_add_neg]
    exact m65_loop r fs.length n 0 (by omega) hn
  · rw [if_neg (fun e => hc ((nI_eq (by omega) (by omega)).mp e)), if_neg hc]
    rfl
