/-! wears, makes, slacks, totals, undo of the reference -/
theorem RepM.ob {h : smH} {M : Nat} {st : St} (r : RepM h M st) : ∃ q, MObj h M st.2.2.1.length st.1.length q := r.1
theorem m116 {X : smX} {h : smH} {M : Nat} {st : St} (r : RepM h M st) (x : Int32) : sm_C PP X 116 [.ref M, .int x] h = some (some (.int (bI (vN st.2.1.1.length x))), h) := by
  obtain ⟨⟨q, a⟩, -, ⟨f, c1, c2⟩, -⟩ := r
  have h6 := c2.2.2.2.1.1
  have hE : (decide ((nI 0).toInt ≤ x.toInt ∧ x.toInt ≤ (nI st.2.1.1.length - nI 1).toInt)) = vN st.2.1.1.length x := by
    unfold vN
    rw [pk_sub_toInt (by omega) (by omega), nI_toInt (by omega)]
    congr 1
    exact propext ⟨fun h => by omega, fun h => by omega⟩
  rw [c116, b116_0]
  simp only [fO a, sm_gI_s, sm_gR_s, sm_gJ_s, sm_cR_s, sm_al_s, sm_sw_s, sm_tl1, sm_tl0, sm_ap0, sm_ap1, List.getElem?_cons_zero, List.getElem?_cons_succ, nk10, nk11, if_true, eq_self]
  rw [aO c1, ldO (show 0 < 219 by omega) (by omega), c2.1, m107, hE]
  simp only [sm_gI_s, sm_gR_s, sm_gJ_s, sm_cR_s, sm_al_s, sm_sw_s, sm_tl1, sm_tl0, sm_ap0, sm_ap1, List.getElem?_cons_zero, List.getElem?_cons_succ, nk10, nk11, if_true, eq_self, b116_13, nkb]
theorem EncE.part {f : Nat → Int32} {e j : Nat} {s : Sh} (x : EncE f (0 + 3 + 36 * e) (en s e)) (hj : j < 2) : f (3 + 36 * e + 32 * j) = nI (rowF s e j).length ∧ ∀ k, k < (rowF s e j).length → f (3 + 36 * e + 32 * j + 1 + k) = nI (nA (rowF s e j) k) := by
  obtain ⟨x1, x2, x3, x4⟩ := x
  rw [Nat.zero_add] at x1 x2 x3 x4
  unfold rowF
  by_cases h0 : j = 0
  · subst h0
    rw [if_pos rfl]
    exact ⟨x1, x2⟩
  · obtain rfl : j = 1 := by omega
    rw [if_neg h0]
    exact ⟨x3, x4⟩
theorem okE.row {s : Sh} {e j : Nat} (x : okE (en s e)) (hj : j < 2) : (rowF s e j).length ≤ (if j = 0 then 31 else 3) ∧ ∀ k, nA (rowF s e j) k < 256 := by
  unfold rowF
  by_cases h0 : j = 0
  · rw [if_pos h0, if_pos h0]; exact ⟨x.1, x.2.2.1⟩
  · rw [if_neg h0, if_neg h0]; exact ⟨x.2.1, x.2.2.2.1⟩
theorem m119 {X : smX} {h : smH} {M : Nat} {st : St} (r : RepM h M st) (x y z : Int32) : sm_C PP X 119 [.ref M, .int x, .int y, .int z] h = some (some (.int (bI (vR st.2.1 x y && vP (rowF st.2.1 x.toInt.toNat y.toInt.toNat) z))), h) := by
  obtain ⟨⟨q, a⟩, -, ⟨f, c1, c2⟩, -⟩ := id r
  have h6 := c2.2.2.2.1.1
  rw [c119, b119_0, vO a, m116 r]
  simp only [sm_gI_s, sm_gR_s, sm_gJ_s, sm_cR_s, sm_al_s, sm_sw_s, sm_tl1, sm_tl0, sm_ap0, sm_ap1, List.getElem?_cons_zero, List.getElem?_cons_succ, nk10, nk11, if_true, eq_self, b119_5, bI_0, b119_41, b119_42]
  rcases row_cs st.2.1 x y with ⟨e, j, he, hj, he31, rfl, rfl⟩ | hv
  · obtain ⟨c3, c4⟩ := c2.2.2.2.2 e he
    obtain ⟨p1, p2⟩ := c3.part hj
    have hlen := (c4.row hj).1
    have hl31 : (rowF st.2.1 e j).length ≤ 31 := by split at hlen <;> omega
    rw [vN_t he he31, if_neg (show ¬ (true = false) by decide), m107, vR_t he hj he31, Bool.true_and, nTN he31, nTN (by omega), show decide ((nI 0).toInt ≤ (nI j).toInt ∧ (nI j).toInt ≤ (nI 1).toInt) = true by rw [nI_toInt (by omega), nI_toInt (by omega), nI_toInt (by omega)]; exact decide_eq_true (by omega)]
    simp only [sm_gI_s, sm_gR_s, sm_gJ_s, sm_cR_s, sm_al_s, sm_sw_s, sm_tl1, sm_tl0, sm_ap0, sm_ap1, List.getElem?_cons_zero, List.getElem?_cons_succ, nk10, nk11, if_true, eq_self, b119_14, bI_0, fO a, m118 (show e < 100 by omega) hj, b119_28]
    rw [if_neg (show ¬ (true = false) by decide), aO c1, ldO (show 3 + 36 * e + 32 * j < 219 by omega) (by omega), p1, m107]
    have hE : decide ((nI 0).toInt ≤ z.toInt ∧ z.toInt ≤ (nI (rowF st.2.1 e j).length - nI 1).toInt) = vP (rowF st.2.1 e j) z := by
      unfold vP
      rw [pk_sub_toInt (by omega) (by omega), nI_toInt (by omega)]
      congr 1
      exact propext ⟨fun h => by omega, fun h => by omega⟩
    rw [hE]
    simp only [sm_gI_s, sm_gR_s, sm_gJ_s, sm_cR_s, sm_al_s, sm_sw_s, sm_tl1, sm_tl0, sm_ap0, sm_ap1, List.getElem?_cons_zero, List.getElem?_cons_succ, nk10, nk11, if_true, eq_self, b119_34, bI_0, b119_41, b119_42]
    cases vP (rowF st.2.1 e j) z with
    | true => rw [if_neg (show ¬ (true = false) by decide)]; rfl
    | false => rw [if_pos rfl]; rfl
  · rw [vR_f hv, Bool.false_and]
    cases ev : vN st.2.1.1.length x with
    | false => rw [if_pos rfl]; rfl
    | true =>
      have hx := of_decide_eq_true ev
      rw [if_neg (show ¬ (true = false) by decide), m107, show decide ((nI 0).toInt ≤ y.toInt ∧ y.toInt ≤ (nI 1).toInt) = false by rw [nI_toInt (by omega), nI_toInt (by omega)]; exact decide_eq_false (by omega)]
      simp only [sm_gI_s, sm_gR_s, sm_gJ_s, sm_cR_s, sm_al_s, sm_sw_s, sm_tl1, sm_tl0, sm_ap0, sm_ap1, List.getElem?_cons_zero, List.getElem?_cons_succ, nk10, nk11, if_true, eq_self, b119_14, bI_0, b119_41, b119_42]
      rfl
/-- a sign of the sheet is written over -/
theorem okE.set {p : List Nat × List Nat} {j k c : Nat} (x : okE p) (hc : c < 256) (hf : j ≠ 0 → c = 63 ∨ (48 ≤ c ∧ c ≤ 57)) (hk : k < (if j = 0 then p.1 else p.2).length) : okE (if j = 0 then (p.1.set k c, p.2) else (p.1, p.2.set k c)) := by
  obtain ⟨a, b, d, e, g⟩ := x
  by_cases h0 : j = 0
  · rw [if_pos h0] at hk ⊢
    exact ⟨by rw [List.length_set]; exact a, b, fun i => by rw [nA_set hk]; split; exact hc; exact d i, e, g⟩
  · rw [if_neg h0] at hk ⊢
    refine ⟨a, by rw [List.length_set]; exact b, d, fun i => by rw [nA_set hk]; split; exact hc; exact e i, fun i hi => ?_⟩
    rw [List.length_set] at hi
    rw [nA_set hk]
    split
    · exact hf h0
    · exact g i hi
theorem EncE.upS {f : Nat → Int32} {a j k c : Nat} {p : List Nat × List Nat} (x : EncE f a p) (ok : okE p) (hj : j < 2) (hk : k < (if j = 0 then p.1 else p.2).length) : EncE (upd f (a + 32 * j + 1 + k) (nI c)) a (if j = 0 then (p.1.set k c, p.2) else (p.1, p.2.set k c)) := by
  obtain ⟨x1, x2, x3, x4⟩ := x
  have o1 := ok.1
  have o2 := ok.2.1
  by_cases h0 : j = 0
  · subst h0
    rw [if_pos rfl] at hk ⊢
    refine ⟨by rw [pk_un (by omega), List.length_set]; exact x1, fun i hi => ?_, by rw [pk_un (by omega)]; exact x3, fun i hi => by rw [pk_un (by omega)]; exact x4 i hi⟩
    rw [List.length_set] at hi
    rw [nA_set hk]
    by_cases e : i = k
    · rw [e, if_pos rfl, show a + 32 * 0 + 1 + k = a + 1 + k by omega, pk_us]
    · rw [if_neg e, pk_un (by omega)]; exact x2 i hi
  · obtain rfl : j = 1 := by omega
    rw [if_neg h0] at hk ⊢
    refine ⟨by rw [pk_un (by omega)]; exact x1, fun i hi => by have hi2 : i < p.1.length := hi; rw [pk_un (by omega)]; exact x2 i hi, by rw [pk_un (by omega), List.length_set]; exact x3, fun i hi => ?_⟩
    rw [List.length_set] at hi
    rw [nA_set hk]
    by_cases e : i = k
    · rw [e, if_pos rfl, show a + 32 * 1 + 1 + k = a + 33 + k by omega, pk_us]
    · rw [if_neg e, pk_un (by omega)]; exact x4 i hi
theorem EncE.oth {f : Nat → Int32} {a x : Nat} {v : Int32} {p : List Nat × List Nat} (y : EncE f a p) (ok : okE p) (hx : x < a ∨ a + 36 ≤ x) : EncE (upd f x v) a p := y.cp ok (fun k hk => pk_un (by omega))
theorem Enc.sR {f : Nat → Int32} {e j k c : Nat} {s : Sh} (x : Enc f 0 s) (he : e < s.1.length) (hj : j < 2) (hk : k < (rowF s e j).length) (hc : c < 256) (hf : j ≠ 0 → c = 63 ∨ (48 ≤ c ∧ c ≤ 57)) : Enc (upd f (3 + 36 * e + 32 * j + 1 + k) (nI c)) 0 (setR s e j k c) := by
  obtain ⟨x1, x2, x3, x4, x5⟩ := x
  have hrow : (if j = 0 then (en s e).1 else (en s e).2) = rowF s e j := rfl
  have hlen : (setR s e j k c).1.length = s.1.length := List.length_set
  have ok := (x5 e he).2
  have hl := (ok.row hj).1
  have hl2 : (rowF s e j).length ≤ (if j = 0 then 31 else 3) := hl
  have hkk : 32 * j + 1 + k < 36 := by split at hl2 <;> omega
  refine ⟨by rw [hlen, pk_un (by omega)]; exact x1, by rw [pk_un (by omega)]; exact x2, by rw [pk_un (by omega)]; exact x3, ⟨by rw [hlen]; exact x4.1, x4.2⟩, fun i hi => ?_⟩
  rw [hlen] at hi
  have hen : en (setR s e j k c) i = if i = e then (if j = 0 then ((en s e).1.set k c, (en s e).2) else ((en s e).1, (en s e).2.set k c)) else en s i := en_set (a := s.2.1) (b := s.2.2) he
  rw [hen]
  by_cases h0 : i = e
  · rw [if_pos h0, h0]
    refine ⟨?_, ok.set hc hf (by rw [hrow]; exact hk)⟩
    have := (x5 e he).1.upS (c := c) ok hj (k := k) (by rw [hrow]; exact hk)
    rw [show 0 + 3 + 36 * e + 32 * j + 1 + k = 3 + 36 * e + 32 * j + 1 + k by omega] at this
    exact this
  · rw [if_neg h0]
    exact ⟨(x5 i hi).1.oth (x5 i hi).2 (by omega), (x5 i hi).2⟩
