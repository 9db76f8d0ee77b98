/-! NUMBERS in words: class NumberWords; strings -/
def stL : List (List Nat) := [[122, 101, 114, 111, 32, 111, 110, 101, 32, 116, 119, 111, 32, 116, 104, 114, 101, 101, 32, 102, 111, 117, 114, 32, 102, 105, 118, 101, 32, 115, 105, 120, 32, 115, 101, 118, 101, 110, 32, 101, 105, 103, 104, 116, 32, 110, 105, 110, 101], [116, 101, 110, 32, 101, 108, 101, 118, 101, 110, 32, 116, 119, 101, 108, 118, 101, 32, 116, 104, 105, 114, 116, 101, 101, 110, 32, 102, 111, 117, 114, 116, 101, 101, 110, 32, 102, 105, 102, 116, 101, 101, 110, 32, 115, 105, 120, 116, 101, 101, 110, 32, 115, 101, 118, 101, 110, 116, 101, 101, 110, 32, 101, 105, 103, 104, 116, 101, 101, 110, 32, 110, 105, 110, 101, 116, 101, 101, 110], [116, 119, 101, 110, 116, 121, 32, 116, 104, 105, 114, 116, 121, 32, 102, 111, 114, 116, 121, 32, 102, 105, 102, 116, 121, 32, 115, 105, 120, 116, 121, 32, 115, 101, 118, 101, 110, 116, 121, 32, 101, 105, 103, 104, 116, 121, 32, 110, 105, 110, 101, 116, 121], [32, 104, 117, 110, 100, 114, 101, 100], [32, 97, 110, 100, 32], [48, 54, 48, 56, 49, 55, 51, 56, 52, 57, 53, 54, 54, 56]]
def stN (t : Nat) : List Nat := stL.getD t []
theorem st_ok {X : smX} {h : smH} : ∀ t, t < 6 → ∃ g, sm_ar PP X h (.retAddr (t + 16)) = some (.byte, (stN t).length, .inl g) ∧ (∀ j, j < (stN t).length → g j = nI (nA (stN t) j) ∧ nA (stN t) j < 128) ∧ Nat.blt t PP.2.2.2.2.1.length = true ∧ (stN t).length < 100
  | 0, _ => ⟨fun j => (pp_st.getD 0 []).getD j 0, rfl, by decide +kernel, rfl, by decide⟩
  | 1, _ => ⟨fun j => (pp_st.getD 1 []).getD j 0, rfl, by decide +kernel, rfl, by decide⟩
  | 2, _ => ⟨fun j => (pp_st.getD 2 []).getD j 0, rfl, by decide +kernel, rfl, by decide⟩
  | 3, _ => ⟨fun j => (pp_st.getD 3 []).getD j 0, rfl, by decide +kernel, rfl, by decide⟩
  | 4, _ => ⟨fun j => (pp_st.getD 4 []).getD j 0, rfl, by decide +kernel, rfl, by decide⟩
  | 5, _ => ⟨fun j => (pp_st.getD 5 []).getD j 0, rfl, by decide +kernel, rfl, by decide⟩
  | t + 6, h => absurd h (by omega)
theorem nk3_0 : narrow (sm_nk 3) (.int 0) = .int 0 := by decide
theorem m7 {X : smX} {h : smH} {t : Nat} (ht : t < 6) : sm_C PP X 7 [.retAddr t] h = some (some (.int (nI (stN t).length)), h) := by
  obtain ⟨g, a, b, c, d⟩ := st_ok (X := X) (h := h) t ht
  simp only [c7, b7_0, b7_9, c6, b6_0, b6_14, sm_gI_s, sm_gR_s, sm_gJ_s, sm_cR_s, sm_al_s, sm_sw_s, sm_tl1, sm_tl0, sm_ap0, sm_ap1, List.getElem?_cons_zero, List.getElem?_cons_succ, nk10, nk11, if_true, eq_self, a, c, nk3_0, cond_true]
  rw [if_neg (by decide)]
  simp only [c7, b7_0, b7_9, sm_gI_s, sm_gR_s, sm_gJ_s, sm_cR_s, sm_al_s, sm_sw_s, sm_tl1, sm_tl0, sm_ap0, sm_ap1, List.getElem?_cons_zero, List.getElem?_cons_succ, nk10, nk11, if_true, eq_self]
  rw [pk_shrN (by omega) _ 0 (by decide), Nat.pow_zero, Nat.div_one]
theorem m9 {X : smX} {h : smH} {j n t : Nat} (hj : j < n) (hn : n < 2 ^ 31) : sm_C PP X 9 [.int (nI j), .int (nI n), .retAddr t] h = some (some (.int (nI j)), h) := by
  simp only [c9, b9_0, b9_9]
  rw [if_neg (nI_pos (by omega)), if_pos (nI_lt hj hn)]
theorem m12 {X : smX} {h : smH} {t j : Nat} (ht : t < 6) (hj : j < (stN t).length) : sm_C PP X 12 [.retAddr t, .int (nI j)] h = some (some (.int (nI (nA (stN t) j))), h) := by
  obtain ⟨g, a, b, c, d⟩ := st_ok (X := X) (h := h) t ht
  have hb := (b j hj).2
  simp only [c12, b12_0, b12_4, b12_15, c8, b8_0, b8_17, b8_18, c10, b10_0, b10_8, sm_gI_s, sm_gR_s, sm_gJ_s, sm_cR_s, sm_al_s, sm_sw_s, sm_tl1, sm_tl0, sm_ap0, sm_ap1, List.getElem?_cons_zero, List.getElem?_cons_succ, nk10, nk11, if_true, eq_self, c, cond_true]
  rw [if_neg (show ¬ (nI 1 : Int32) = 0 by decide)]
  simp only [c12, b12_0, b12_4, b12_15, c8, b8_0, b8_17, b8_18, sm_gI_s, sm_gR_s, sm_gJ_s, sm_cR_s, sm_al_s, sm_sw_s, sm_tl1, sm_tl0, sm_ap0, sm_ap1, List.getElem?_cons_zero, List.getElem?_cons_succ, nk10, nk11, if_true, eq_self]
  rw [if_neg (show ¬ (nI 1 : Int32) = 0 by decide), c11, b11_0]
  simp only [a, sm_al_s, c10, b10_0, b10_8, m9 hj (show (stN t).length < 2 ^ 31 by omega), sm_gI_s, sm_gR_s, sm_gJ_s, sm_cR_s, sm_al_s, sm_sw_s, sm_tl1, sm_tl0, sm_ap0, sm_ap1, List.getElem?_cons_zero, List.getElem?_cons_succ, nk10, nk11, if_true, eq_self]
  rw [b11_6, a, ldO hj (by omega), (b j hj).1, pk_andN (by omega) 8 (by decide), pk_char, pk_tn (by omega)]
  rw [show nA (stN t) j % 2 ^ 8 % 65536 = nA (stN t) j by omega, if_pos (nk2 (by omega))]
  simp only [sm_gI_s, sm_gR_s, sm_gJ_s, sm_cR_s, sm_al_s, sm_sw_s, sm_tl1, sm_tl0, sm_ap0, sm_ap1, List.getElem?_cons_zero, List.getElem?_cons_succ, nk10, nk11, if_true, eq_self, c12, b12_0, b12_4, b12_15]
  rw [if_pos (nk2 (by omega)), c]
  rfl
theorem m13 {X : smX} {h : smH} (x : Int32) : sm_C PP X 13 [.int x] h = some (some (.int (if 0 ≤ x.toInt ∧ x.toInt < 1000 then nI 1 else nI 0)), h) := by
  simp only [c13, b13_0, b13_15, b13_16, sm_gI_s, sm_gR_s, sm_gJ_s, sm_cR_s, sm_al_s, sm_sw_s, sm_tl1, sm_tl0, sm_ap0, sm_ap1, List.getElem?_cons_zero, List.getElem?_cons_succ, nk10, nk11, if_true, eq_self, i_lt, i_le, i_0, nI_toInt (show 1000 < 2 ^ 31 by omega)]
  split
  · rw [if_neg (by omega)]
  · split
    · rw [if_neg (by omega)]
    · rw [if_pos (by omega)]
theorem m13k {X : smX} {h : smH} {n : Nat} (hn : n < 1000) : sm_C PP X 13 [.int (nI n)] h = some (some (.int (nI 1)), h) := by
  rw [m13, nI_toInt (by omega), if_pos (by omega)]
/-- the table of words: row n is T n -/
def NWAt (h : smH) (N : Nat) (T : Nat → List Nat) : Prop := h.1 N = some (.inr (3, [.ref (N + 1), .ref (N + 2)])) ∧ ∃ fs fl, h.1 (N + 1) = some (.inl (.char, 31000, .inl fs)) ∧ h.1 (N + 2) = some (.inl (.int, 1000, .inl fl)) ∧ ∀ n, n < 1000 → fl n = nI (T n).length ∧ (T n).length ≤ 31 ∧ (∀ k, nA (T n) k < 256) ∧ ∀ k, k < (T n).length → fs (n * 31 + k) = nI (nA (T n) k)
theorem NWAt.fr {h h' : smH} {N lo hi : Nat} {T} (r : NWAt h N T) (f : Fr h h' lo hi) (hd : N + 3 ≤ lo ∨ hi ≤ N) : NWAt h' N T := by
  obtain ⟨a, fs, fl, b, c, d⟩ := r
  exact ⟨by rw [f.2 _ (by omega)]; exact a, fs, fl, by rw [f.2 _ (by omega)]; exact b, by rw [f.2 _ (by omega)]; exact c, d⟩
theorem m16 {X : smX} {h : smH} {N n : Nat} {T} (r : NWAt h N T) (hn : n < 1000) : sm_C PP X 16 [.ref N, .int (nI n)] h = some (some (.int (nI (T n).length)), h) := by
  obtain ⟨a, fs, fl, b, c, d⟩ := r
  simp only [c16, b16_0, b16_4, b16_17, sm_gI_s, sm_gR_s, sm_gJ_s, sm_cR_s, sm_al_s, sm_sw_s, sm_tl1, sm_tl0, sm_ap0, sm_ap1, List.getElem?_cons_zero, List.getElem?_cons_succ, nk10, nk11, if_true, eq_self, m13k hn, fO a, aO c]
  rw [if_neg (by decide), ldO hn (by omega), (d n hn).1]
theorem m17 {X : smX} {h : smH} {N n k : Nat} {T} (r : NWAt h N T) (hn : n < 1000) (hk : k < 2 ^ 31) : sm_C PP X 17 [.ref N, .int (nI n), .int (nI k)] h = some (some (.int (if k < (T n).length then nI (nA (T n) k) else -nI 9)), h) := by
  obtain ⟨a, fs, fl, b, c, d⟩ := r
  obtain ⟨d1, d2, d3, d4⟩ := d n hn
  simp only [c17, b17_0, b17_4, b17_27, sm_gI_s, sm_gR_s, sm_gJ_s, sm_cR_s, sm_al_s, sm_sw_s, sm_tl1, sm_tl0, sm_ap0, sm_ap1, List.getElem?_cons_zero, List.getElem?_cons_succ, nk10, nk11, if_true, eq_self, m13k hn, fO a, aO c, aO b]
  rw [if_neg (by decide), if_neg (nI_pos hk), ldO hn (by omega), d1]
  by_cases hc : k < (T n).length
  · rw [if_neg (nI_ge hc (by omega)), if_pos (nI_lt (by omega) (by omega)), pk_mul, nI_add, ldO (by omega) (by omega), d4 k hc, if_pos hc]
  · rw [if_pos (nI_le (by omega) hk), if_neg hc]
/-- a letter more -/
theorem m14 {X : smX} {h : smH} {N n c : Nat} {T} (r : NWAt h N T) (hn : n < 1000) (hc : c < 256) (hl : (T n).length < 31) : ∃ h', sm_C PP X 14 [.ref N, .int (nI n), .int (nI c)] h = some (none, h') ∧ NWAt h' N (uP T n (T n ++ [c])) ∧ Fr h h' N (N + 3) := by
  obtain ⟨a, fs, fl, b, e, d⟩ := r
  obtain ⟨d1, d2, d3, d4⟩ := d n hn
  have a1 : (sm_w h (N + 1) (.inl (.char, 31000, .inl (upd fs (n * 31 + (T n).length) (nI c))))).1 N = _ := (w_ne (by omega)).trans a
  have e1 : (sm_w h (N + 1) (.inl (.char, 31000, .inl (upd fs (n * 31 + (T n).length) (nI c))))).1 (N + 2) = _ := (w_ne (by omega)).trans e
  have hlen : (T n ++ [c]).length = (T n).length + 1 := by simp
  refine ⟨sm_w (sm_w h (N + 1) (.inl (.char, 31000, .inl (upd fs (n * 31 + (T n).length) (nI c))))) (N + 2) (.inl (.int, 1000, .inl (upd fl n (nI ((T n).length + 1))))), ?_, ⟨(w_ne (by omega)).trans a1, _, _, (w_ne (by omega)).trans w_eq, w_eq, fun j hj => ?_⟩, Fr.w.tr (Fr.w (h := sm_w h (N + 1) _)) (by omega) (by omega) (by omega) (by omega)⟩
  · rw [c14, b14_0]
    simp only [m13k hn, sm_gI_s, sm_gR_s, sm_gJ_s, sm_cR_s, sm_al_s, sm_sw_s, sm_tl1, sm_tl0, sm_ap0, sm_ap1, List.getElem?_cons_zero, List.getElem?_cons_succ, nk10, nk11, if_true, eq_self, b14_4, fO a, aO e]
    rw [if_neg (by decide), ldO hn (by omega), d1, if_pos (nI_lt hl (by omega)), ldO hn (by omega), d1, pk_mul, nI_add, nar2 (by omega), stO b (by omega) (by omega)]
    simp only [sm_gI_s, sm_gR_s, sm_gJ_s, sm_cR_s, sm_al_s, sm_sw_s, sm_tl1, sm_tl0, sm_ap0, sm_ap1, List.getElem?_cons_zero, List.getElem?_cons_succ, nk10, nk11, if_true, eq_self, fO a1, aO e1]
    rw [ldO hn (by omega), d1, stO e1 hn (by omega), nI_add]
  · obtain ⟨j1, j2, j3, j4⟩ := d j hj
    by_cases q : j = n
    · subst q
      rw [uP_eq]
      refine ⟨by rw [pk_us, hlen], by omega, fun k => ?_, fun k hk => ?_⟩
      · rw [nA_app]
        split
        · exact d3 k
        · unfold nA
          cases hz : k - (T j).length with
          | zero => exact hc
          | succ z => show 0 < 256; omega
      · rw [hlen] at hk
        rw [nA_app]
        by_cases e2 : k = (T j).length
        · rw [if_neg (by omega), e2, pk_us, Nat.sub_self]; rfl
        · rw [if_pos (by omega), pk_un (by omega)]; exact j4 k (by omega)
    · rw [uP_ne q]
      refine ⟨by rw [pk_un q]; exact j1, j2, j3, fun k hk => ?_⟩
      rw [pk_un (by omega)]; exact j4 k hk
theorem uP_app {T : Nat → List Nat} {n : Nat} {a b : List Nat} : uP (uP T n (T n ++ a)) n (uP T n (T n ++ a) n ++ b) = uP T n (T n ++ (a ++ b)) := by
  funext j
  unfold uP
  split
  · rw [if_pos rfl, List.append_assoc]
  · rfl
theorem uP_nil {T : Nat → List Nat} {n : Nat} : uP T n (T n ++ []) = T := by
  funext j
  unfold uP
  split
  · rename_i e; rw [e, List.append_nil]
  · rfl
/-- the letters of the name that stands at place which -/
def nth : List Nat → Nat → Nat → List Nat
  | [], _, _ => []
  | c :: cs, n, w => if c = 32 then nth cs (n + 1) w else if n = w then c :: nth cs n w else nth cs n w
theorem drop_nA {ws : List Nat} {k : Nat} (h : k < ws.length) : ws.drop k = nA ws k :: ws.drop (k + 1) := by
  rw [List.drop_eq_getElem_cons h]
  unfold nA
  rw [List.getD_eq_getElem?_getD, List.getElem?_eq_getElem h]
  rfl
theorem m15_loop {X : smX} {N n t w : Nat} (ht : t < 6) (hn : n < 1000) (hw : w < 1000) : ∀ (d i q : Nat), i + d = (stN t).length → q ≤ i → ∀ (h : smH) (T : Nat → List Nat), NWAt h N T → (T n).length + (nth ((stN t).drop i) q w).length ≤ 31 → ∃ h', sm_E PP X 15 6 [(0, .ref N), (1, .int (nI n)), (2, .retAddr t), (3, .int (nI w)), (4, .int (nI q)), (5, .int (nI i))] [] h = some (none, h') ∧ NWAt h' N (uP T n (T n ++ nth ((stN t).drop i) q w)) ∧ Fr h h' N (N + 3) := by
  intro d
  obtain ⟨g0, -, b, c, e⟩ := st_ok (X := (0, fun _ => 0)) (h := (fun _ => none, 0, 0)) t ht
  induction d with
  | zero =>
    intro i q hi hq h T r hl
    refine ⟨h, ?_, ?_, Fr.rf⟩
    · rw [b15_6, c]
      simp only [cond_true, m7 ht, sm_gI_s, sm_gR_s, sm_gJ_s, sm_cR_s, sm_al_s, sm_sw_s, sm_tl1, sm_tl0, sm_ap0, sm_ap1, List.getElem?_cons_zero, List.getElem?_cons_succ, nk10, nk11, if_true, eq_self, b15_12]
      rw [if_pos (nI_le (by omega) (by omega))]
    · rw [List.drop_eq_nil_of_le (by omega)]
      show NWAt h N (uP T n (T n ++ []))
      rw [uP_nil]
      exact r
  | succ d ih =>
    intro i q hi hq h T r hl
    have hb := (b i (by omega)).2
    have hE : ∀ h1, sm_E PP X 15 6 [(0, .ref N), (1, .int (nI n)), (2, .retAddr t), (3, .int (nI w)), (4, .int (nI q)), (5, .int (nI i))] [] h1 = sm_E PP X 15 21 [(0, .ref N), (1, .int (nI n)), (2, .retAddr t), (3, .int (nI w)), (4, .int (nI q)), (5, .int (nI i))] [.int (nI (nA (stN t) i))] h1 := fun h1 => by
      rw [b15_6, c]
      simp only [cond_true, m7 ht, sm_gI_s, sm_gR_s, sm_gJ_s, sm_cR_s, sm_al_s, sm_sw_s, sm_tl1, sm_tl0, sm_ap0, sm_ap1, List.getElem?_cons_zero, List.getElem?_cons_succ, nk10, nk11, if_true, eq_self, b15_12, c, m12 ht (show i < (stN t).length by omega)]
      rw [if_neg (nI_ge (by omega) (by omega))]
    rw [hE, b15_21]
    have hdr := drop_nA (ws := stN t) (k := i) (by omega)
    rw [hdr] at hl ⊢
    unfold nth at hl ⊢
    simp only [nI_eq (show nA (stN t) i < 2 ^ 31 by omega) (show 32 < 2 ^ 31 by omega), nI_eq (show q < 2 ^ 31 by omega) (show w < 2 ^ 31 by omega), nI_add, b15_49, vO r.1]
    by_cases h1 : nA (stN t) i = 32
    · rw [if_pos h1] at hl ⊢
      rw [if_pos h1]
      exact ih (i + 1) (q + 1) (by omega) (by omega) h T r hl
    · rw [if_neg h1] at hl ⊢
      rw [if_neg h1]
      by_cases h2 : q = w
      · rw [if_pos h2] at hl ⊢
        rw [if_pos h2]
        rw [List.length_cons] at hl
        obtain ⟨h2', e2, r2, f2⟩ := m14 (X := X) r hn (show nA (stN t) i < 256 by omega) (by omega)
        obtain ⟨h3, e3, r3, f3⟩ := ih (i + 1) q (by omega) (by omega) h2' _ r2 (by rw [uP_eq, List.length_append]; show (T n).length + 1 + _ ≤ 31; omega)
        refine ⟨h3, ?_, ?_, f2.tr f3 (by omega) (by omega) (by omega) (by omega)⟩
        · rw [e2]
          simp only [sm_gI_s, sm_gR_s, sm_gJ_s, sm_cR_s, sm_al_s, sm_sw_s, sm_tl1, sm_tl0, sm_ap0, sm_ap1, List.getElem?_cons_zero, List.getElem?_cons_succ, nk10, nk11, if_true, eq_self, b15_49, nI_add, e3]
        · rw [uP_app] at r3
          exact r3
      · rw [if_neg h2] at hl ⊢
        rw [if_neg h2]
        exact ih (i + 1) q (by omega) (by omega) h T r hl
theorem m15 {X : smX} {h : smH} {N n t w : Nat} {T} (ht : t < 6) (hn : n < 1000) (hw : w < 1000) (r : NWAt h N T) (hl : (T n).length + (nth (stN t) 0 w).length ≤ 31) : ∃ h', sm_C PP X 15 [.ref N, .int (nI n), .retAddr t, .int (nI w)] h = some (none, h') ∧ NWAt h' N (uP T n (T n ++ nth (stN t) 0 w)) ∧ Fr h h' N (N + 3) := by
  rw [c15, b15_0]
  exact m15_loop ht hn hw (stN t).length 0 0 (by omega) (by omega) h T r hl
theorem m20_loop {X : smX} {N n t : Nat} (ht : t < 6) (hn : n < 1000) : ∀ (d i : Nat), i + d = (stN t).length → ∀ (h : smH) (T : Nat → List Nat), NWAt h N T → (T n).length + d ≤ 31 → ∃ h', sm_E PP X 20 2 [(0, .ref N), (1, .int (nI n)), (2, .retAddr t), (3, .int (nI i))] [] h = some (none, h') ∧ NWAt h' N (uP T n (T n ++ (stN t).drop i)) ∧ Fr h h' N (N + 3) := by
  intro d
  obtain ⟨g0, -, b, c, e⟩ := st_ok (X := (0, fun _ => 0)) (h := (fun _ => none, 0, 0)) t ht
  induction d with
  | zero =>
    intro i hi h T r hl
    refine ⟨h, ?_, ?_, Fr.rf⟩
    · rw [b20_2, c]
      simp only [cond_true, m7 ht, sm_gI_s, sm_gR_s, sm_gJ_s, sm_cR_s, sm_al_s, sm_sw_s, sm_tl1, sm_tl0, sm_ap0, sm_ap1, List.getElem?_cons_zero, List.getElem?_cons_succ, nk10, nk11, if_true, eq_self, b20_7]
      rw [if_pos (nI_le (by omega) (by omega))]
    · rw [List.drop_eq_nil_of_le (by omega), uP_nil]
      exact r
  | succ d ih =>
    intro i hi h T r hl
    have hb := (b i (by omega)).2
    obtain ⟨h2', e2, r2, f2⟩ := m14 (X := X) r hn (show nA (stN t) i < 256 by omega) (by omega)
    obtain ⟨h3, e3, r3, f3⟩ := ih (i + 1) (by omega) h2' _ r2 (by rw [uP_eq, List.length_append]; show (T n).length + 1 + _ ≤ 31; omega)
    refine ⟨h3, ?_, ?_, f2.tr f3 (by omega) (by omega) (by omega) (by omega)⟩
    · rw [b20_2, c]
      simp only [cond_true, m7 ht, sm_gI_s, sm_gR_s, sm_gJ_s, sm_cR_s, sm_al_s, sm_sw_s, sm_tl1, sm_tl0, sm_ap0, sm_ap1, List.getElem?_cons_zero, List.getElem?_cons_succ, nk10, nk11, if_true, eq_self, b20_7, c, m12 ht (show i < (stN t).length by omega)]
      rw [if_neg (nI_ge (by omega) (by omega)), b20_17, vO r.1, e2]
      simp only [sm_gI_s, sm_gR_s, sm_gJ_s, sm_cR_s, sm_al_s, sm_sw_s, sm_tl1, sm_tl0, sm_ap0, sm_ap1, List.getElem?_cons_zero, List.getElem?_cons_succ, nk10, nk11, if_true, eq_self, b20_20, nI_add, e3]
    · rw [uP_app] at r3
      rw [drop_nA (by omega)]
      exact r3
theorem m20 {X : smX} {h : smH} {N n t : Nat} {T} (ht : t < 6) (hn : n < 1000) (r : NWAt h N T) (hl : (T n).length + (stN t).length ≤ 31) : ∃ h', sm_C PP X 20 [.ref N, .int (nI n), .retAddr t] h = some (none, h') ∧ NWAt h' N (uP T n (T n ++ stN t)) ∧ Fr h h' N (N + 3) := by
  rw [c20, b20_0]
  exact m20_loop ht hn (stN t).length 0 (by omega) h T r hl
theorem m18_loop {X : smX} {N n p : Nat} (hn : n < 1000) (hp : p < 1000) (hpn : p ≠ n) : ∀ (d i : Nat) (h : smH) (T : Nat → List Nat), i + d = (T p).length → NWAt h N T → (T n).length + d ≤ 31 → ∃ h', sm_E PP X 18 9 [(0, .ref N), (1, .int (nI n)), (2, .int (nI p)), (3, .int (nI (T p).length)), (4, .int (nI i))] [] h = some (none, h') ∧ NWAt h' N (uP T n (T n ++ (T p).drop i)) ∧ Fr h h' N (N + 3) := by
  intro d
  induction d with
  | zero =>
    intro i h T hi r hl
    obtain ⟨-, hp2, -⟩ := r.2.choose_spec.choose_spec.2.2 p hp
    refine ⟨h, ?_, ?_, Fr.rf⟩
    · rw [b18_9, if_pos (nI_le (by omega) (by omega))]
    · rw [List.drop_eq_nil_of_le (by omega), uP_nil]
      exact r
  | succ d ih =>
    intro i h T hi r hl
    obtain ⟨-, hp2, hp3, -⟩ := r.2.choose_spec.choose_spec.2.2 p hp
    have hb := hp3 i
    obtain ⟨h2', e2, r2, f2⟩ := m14 (X := X) r hn hb (by omega)
    obtain ⟨h3, e3, r3, f3⟩ := ih (i + 1) h2' _ (by rw [uP_ne hpn]; omega) r2 (by rw [uP_eq, List.length_append]; show (T n).length + 1 + _ ≤ 31; omega)
    rw [uP_ne hpn] at e3 r3
    refine ⟨h3, ?_, ?_, f2.tr f3 (by omega) (by omega) (by omega) (by omega)⟩
    · rw [b18_9, if_neg (nI_ge (by omega) (by omega)), vO r.1, m17 r hp (by omega), if_pos (by omega)]
      simp only [sm_gI_s, sm_gR_s, sm_gJ_s, sm_cR_s, sm_al_s, sm_sw_s, sm_tl1, sm_tl0, sm_ap0, sm_ap1, List.getElem?_cons_zero, List.getElem?_cons_succ, nk10, nk11, if_true, eq_self, b18_24, vO r.1]
      rw [pk_char, pk_tn (by omega), Nat.mod_eq_of_lt (by omega), e2]
      simp only [sm_gI_s, sm_gR_s, sm_gJ_s, sm_cR_s, sm_al_s, sm_sw_s, sm_tl1, sm_tl0, sm_ap0, sm_ap1, List.getElem?_cons_zero, List.getElem?_cons_succ, nk10, nk11, if_true, eq_self, b18_28, nI_add, e3]
    · rw [uP_app] at r3
      rw [drop_nA (by omega)]
      exact r3
theorem m18 {X : smX} {h : smH} {N n p : Nat} {T} (hn : n < 1000) (hp : p < 1000) (hpn : p ≠ n) (r : NWAt h N T) (hl : (T n).length + (T p).length ≤ 31) : ∃ h', sm_C PP X 18 [.ref N, .int (nI n), .int (nI p)] h = some (none, h') ∧ NWAt h' N (uP T n (T n ++ T p)) ∧ Fr h h' N (N + 3) := by
  rw [c18, b18_0, vO r.1, m16 r hp]
  simp only [sm_gI_s, sm_gR_s, sm_gJ_s, sm_cR_s, sm_al_s, sm_sw_s, sm_tl1, sm_tl0, sm_ap0, sm_ap1, List.getElem?_cons_zero, List.getElem?_cons_succ, nk10, nk11, if_true, eq_self, b18_5]
  exact m18_loop hn hp hpn (T p).length 0 h T (by omega) r hl
