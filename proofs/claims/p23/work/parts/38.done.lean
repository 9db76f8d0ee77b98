/-! wears, makes, slacks, totals, undo -/
theorem row_cs (s : Sh) (x y : Int32) : (∃ e f, e < s.1.length ∧ f < 2 ∧ e < 2 ^ 31 ∧ x = nI e ∧ y = nI f) ∨ ¬ (0 ≤ x.toInt ∧ x.toInt < s.1.length ∧ 0 ≤ y.toInt ∧ y.toInt ≤ 1) := by
  by_cases hv : 0 ≤ x.toInt ∧ x.toInt < s.1.length ∧ 0 ≤ y.toInt ∧ y.toInt ≤ 1
  · obtain ⟨e, he, rfl⟩ := i_nat hv.1
    obtain ⟨f, hf, rfl⟩ := i_nat hv.2.2.1
    rw [nI_toInt he, nI_toInt hf] at hv
    exact Or.inl ⟨e, f, by omega, by omega, he, rfl, rfl⟩
  · exact Or.inr hv
def vR (s : Sh) (x y : Int32) : Bool := decide (0 ≤ x.toInt ∧ x.toInt < s.1.length ∧ 0 ≤ y.toInt ∧ y.toInt ≤ 1)
def vP (ws : List Nat) (z : Int32) : Bool := decide (0 ≤ z.toInt ∧ z.toInt < ws.length)
theorem vR_t {s : Sh} {e f : Nat} (he : e < s.1.length) (hf : f < 2) (h31 : e < 2 ^ 31) : vR s (nI e) (nI f) = true := by
  unfold vR
  rw [nI_toInt h31, nI_toInt (by omega)]
  exact decide_eq_true (by omega)
theorem vR_f {s : Sh} {x y : Int32} (h : ¬ (0 ≤ x.toInt ∧ x.toInt < s.1.length ∧ 0 ≤ y.toInt ∧ y.toInt ≤ 1)) : vR s x y = false := decide_eq_false h
theorem vP_t {ws : List Nat} {p : Nat} (hp : p < ws.length) (h31 : p < 2 ^ 31) : vP ws (nI p) = true := by
  unfold vP
  rw [nI_toInt h31]
  exact decide_eq_true (by omega)
theorem pl_cs (ws : List Nat) (z : Int32) : (∃ p, p < ws.length ∧ p < 2 ^ 31 ∧ z = nI p) ∨ ¬ (0 ≤ z.toInt ∧ z.toInt < ws.length) := by
  by_cases hv : 0 ≤ z.toInt ∧ z.toInt < ws.length
  · obtain ⟨p, hp, rfl⟩ := i_nat hv.1
    rw [nI_toInt hp] at hv
    exact Or.inl ⟨p, by omega, hp, rfl⟩
  · exact Or.inr hv
theorem nTN {n : Nat} (h : n < 2 ^ 31) : (nI n).toInt.toNat = n := by rw [nI_toInt h, Int.toNat_natCast]
def opWears (st : St) (x y z : Int32) : Int32 × St := if vR st.2.1 x y = true then (if vP (rowF st.2.1 x.toInt.toNat y.toInt.toNat) z = true then (if nA (rowF st.2.1 x.toInt.toNat y.toInt.toNat) z.toInt.toNat = 63 ∨ nA (rowF st.2.1 x.toInt.toNat y.toInt.toNat) z.toInt.toNat = 32 then (-nI 2, st) else (nI (nA (rowF st.2.1 x.toInt.toNat y.toInt.toNat) z.toInt.toNat), chg st (setR st.2.1 x.toInt.toNat y.toInt.toNat z.toInt.toNat 63))) else (-nI 1, st)) else (-nI 1, st)
theorem m52 {X : smX} {h : smH} {B : Nat} {st : St} (r : RepC h B st) (x y z : Int32) : ∃ h', sm_C PP X 52 [.ref B, .int x, .int y, .int z] h = some (some (.int (opWears st x y z).1), h') ∧ RepC h' B (opWears st x y z).2 ∧ Fr h h' B (B + 338) := by
  have rc := r.1
  have h6 := rc.2.2.1.2.1.1
  unfold opWears
  rcases row_cs st.2.1 x y with ⟨e, f, he, hf, he31, rfl, rfl⟩ | hv
  · have hw := rc.2.2.1.row (f := f) he
    have hbd := adr_bd (S := B + 3) (f := f) (show e < 6 by omega)
    simp only [vR_t he hf he31, if_true, nTN he31, nTN (show f < 2 ^ 31 by omega)]
    simp only [c52, b52_0, fO rc.1, sm_gI_s, sm_gR_s, sm_gJ_s, sm_cR_s, sm_al_s, sm_sw_s, sm_tl1, sm_tl0, sm_ap0, sm_ap1, List.getElem?_cons_zero, List.getElem?_cons_succ, nk10, nk11, if_true, eq_self, vO rc.2.2.1.1.1, m51k rc.2.2.1 he hf, b52_9, vO hw.1, m36 hw, b52_22]
    rcases pl_cs (rowF st.2.1 e f) z with ⟨p, hp, hp31, rfl⟩ | hz
    · have hA := hw.2.1.2.2 p
      simp only [vP_t hp hp31, if_true, nI_toInt hp31, Int.toNat_natCast]
      rw [if_pos (show (0 : Int) ≤ (p : Int) ∧ (p : Int) < ((rowF st.2.1 e f).length : Int) by omega), if_neg (show ¬ (nI 1 : Int32) = 0 by decide), m37k hw hp]
      simp only [sm_gI_s, sm_gR_s, sm_gJ_s, sm_cR_s, sm_al_s, sm_sw_s, sm_tl1, sm_tl0, sm_ap0, sm_ap1, List.getElem?_cons_zero, List.getElem?_cons_succ, nk10, nk11, if_true, eq_self, b52_33, nI_eq (show nA (rowF st.2.1 e f) p < 2 ^ 31 by omega) (show 63 < 2 ^ 31 by omega), nI_eq (show nA (rowF st.2.1 e f) p < 2 ^ 31 by omega) (show 32 < 2 ^ 31 by omega), b52_49]
      by_cases h1 : nA (rowF st.2.1 e f) p = 63
      · rw [if_pos h1, if_pos (Or.inl h1)]
        exact ⟨h, rfl, r, Fr.rf⟩
      · rw [if_neg h1]
        by_cases h2 : nA (rowF st.2.1 e f) p = 32
        · rw [if_pos h2, if_pos (Or.inr h2)]
          exact ⟨h, rfl, r, Fr.rf⟩
        · rw [if_neg h2, if_neg (by omega)]
          obtain ⟨h2', e2, c2, f2, k2⟩ := m43 (X := X) r
          have hw2 := c2.2.2.1.row (f := f) he
          obtain ⟨h3, e3, q3, k3⟩ := m38 (X := X) (c := 63) hw2 hp (by omega)
          have c3 := c2.sheet (k3.mono (by omega) (by omega)) (c2.2.2.1.put he k3 q3)
          rw [vO rc.1, e2]
          simp only [sm_gI_s, sm_gR_s, sm_gJ_s, sm_cR_s, sm_al_s, sm_sw_s, sm_tl1, sm_tl0, sm_ap0, sm_ap1, List.getElem?_cons_zero, List.getElem?_cons_succ, nk10, nk11, if_true, eq_self, b52_56, vO hw2.1, e3, b52_64]
          exact ⟨_, rfl, ⟨c3, false, false, (f2 _).fr k3 (by omega)⟩, (k2.mono (by omega) (by omega)).s (k3.mono (by omega) (by omega))⟩
    · rw [if_neg hz, if_pos (show (nI 0 : Int32) = 0 from rfl), b52_25, if_neg (by unfold vP; rw [decide_eq_false hz]; decide)]
      exact ⟨h, rfl, r, Fr.rf⟩
  · rw [if_neg (by rw [vR_f hv]; decide)]
    simp only [c52, b52_0, fO rc.1, sm_gI_s, sm_gR_s, sm_gJ_s, sm_cR_s, sm_al_s, sm_sw_s, sm_tl1, sm_tl0, sm_ap0, sm_ap1, List.getElem?_cons_zero, List.getElem?_cons_succ, nk10, nk11, if_true, eq_self, vO rc.2.2.1.1.1, m51n rc.2.2.1.1 h6 hv, b52_9_1, b52_25]
    exact ⟨h, rfl, r, Fr.rf⟩
def okS (f : Nat) (c : Int32) : Bool := decide (f = 0 ∧ 97 ≤ c.toInt ∧ c.toInt ≤ 122 ∨ f ≠ 0 ∧ 48 ≤ c.toInt ∧ c.toInt ≤ 57)
theorem m31g {X : smX} {h : smH} (c : Int32) : sm_C PP X 31 [.int c] h = some (some (.int (bI (decide (97 ≤ c.toInt ∧ c.toInt ≤ 122)))), h) := by
  simp only [c31, b31_0, b31_16, b31_17, sm_gI_s, sm_gR_s, sm_gJ_s, sm_cR_s, sm_al_s, sm_sw_s, sm_tl1, sm_tl0, sm_ap0, sm_ap1, List.getElem?_cons_zero, List.getElem?_cons_succ, nk10, nk11, if_true, eq_self, i_lt, nI_toInt (show 97 < 2 ^ 31 by omega), nI_toInt (show 122 < 2 ^ 31 by omega)]
  unfold bI
  by_cases h1 : c.toInt < 97
  · rw [if_pos (by omega), if_neg (by simp; omega)]
  · rw [if_neg (by omega)]
    by_cases h2 : 122 < c.toInt
    · rw [if_pos (by omega), if_neg (by simp; omega)]
    · rw [if_neg (by omega), if_pos (by simp; omega)]
theorem m33g {X : smX} {h : smH} (c : Int32) : sm_C PP X 33 [.int c] h = some (some (.int (bI (decide (48 ≤ c.toInt ∧ c.toInt ≤ 57)))), h) := by
  simp only [c33, b33_0, b33_16, b33_17, sm_gI_s, sm_gR_s, sm_gJ_s, sm_cR_s, sm_al_s, sm_sw_s, sm_tl1, sm_tl0, sm_ap0, sm_ap1, List.getElem?_cons_zero, List.getElem?_cons_succ, nk10, nk11, if_true, eq_self, i_lt, nI_toInt (show 48 < 2 ^ 31 by omega), nI_toInt (show 57 < 2 ^ 31 by omega)]
  unfold bI
  by_cases h1 : c.toInt < 48
  · rw [if_pos (by omega), if_neg (by simp; omega)]
  · rw [if_neg (by omega)]
    by_cases h2 : 57 < c.toInt
    · rw [if_pos (by omega), if_neg (by simp; omega)]
    · rw [if_neg (by omega), if_pos (by simp; omega)]
theorem m53 {X : smX} {h : smH} {f : Nat} (hf : f < 2) (c : Int32) : sm_C PP X 53 [.int (nI f), .int c] h = some (some (.int (bI (okS f c))), h) := by
  simp only [c53, b53_0, m31g, m33g, sm_gI_s, sm_gR_s, sm_gJ_s, sm_cR_s, sm_al_s, sm_sw_s, sm_tl1, sm_tl0, sm_ap0, sm_ap1, List.getElem?_cons_zero, List.getElem?_cons_succ, nk10, nk11, if_true, eq_self, b53_8, b53_15, nkb]
  unfold okS
  by_cases h0 : f = 0
  · subst h0
    rw [if_pos (show (nI 0 : Int32) = 0 from rfl)]
    simp
  · obtain rfl : f = 1 := by omega
    rw [if_neg (show ¬ (nI 1 : Int32) = 0 by decide)]
    simp
def opMakes (st : St) (x y z c : Int32) : Int32 × St := if vR st.2.1 x y = true then (if vP (rowF st.2.1 x.toInt.toNat y.toInt.toNat) z = true ∧ okS y.toInt.toNat c = true then (if nA (rowF st.2.1 x.toInt.toNat y.toInt.toNat) z.toInt.toNat = 63 then (nI (wornE (en (setR st.2.1 x.toInt.toNat y.toInt.toNat z.toInt.toNat c.toInt.toNat) x.toInt.toNat)), chg st (setR st.2.1 x.toInt.toNat y.toInt.toNat z.toInt.toNat c.toInt.toNat)) else (-nI 2, st)) else (-nI 1, st)) else (-nI 1, st)
theorem okS_n {f : Nat} {c : Int32} (h : okS f c = true) : ∃ k, k < 128 ∧ c = nI k := by
  have h2 := of_decide_eq_true h
  obtain ⟨k, hk, rfl⟩ := i_nat (x := c) (by omega)
  rw [nI_toInt hk] at h2
  exact ⟨k, by omega, rfl⟩
theorem m56 {X : smX} {h : smH} {B : Nat} {st : St} (r : RepC h B st) (x y z c : Int32) : ∃ h', sm_C PP X 56 [.ref B, .int x, .int y, .int z, .int c] h = some (some (.int (opMakes st x y z c).1), h') ∧ RepC h' B (opMakes st x y z c).2 ∧ Fr h h' B (B + 338) := by
  have rc := r.1
  have h6 := rc.2.2.1.2.1.1
  unfold opMakes
  rcases row_cs st.2.1 x y with ⟨e, f, he, hf, he31, rfl, rfl⟩ | hv
  · have hw := rc.2.2.1.row (f := f) he
    have hbd := adr_bd (S := B + 3) (f := f) (show e < 6 by omega)
    simp only [vR_t he hf he31, if_true, nTN he31, nTN (show f < 2 ^ 31 by omega)]
    simp only [c56, b56_0, fO rc.1, sm_gI_s, sm_gR_s, sm_gJ_s, sm_cR_s, sm_al_s, sm_sw_s, sm_tl1, sm_tl0, sm_ap0, sm_ap1, List.getElem?_cons_zero, List.getElem?_cons_succ, nk10, nk11, if_true, eq_self, vO rc.2.2.1.1.1, m51k rc.2.2.1 he hf, b56_9, vO hw.1, m36 hw, b56_22, m53 hf, b56_31, b56_34, bI_0]
    rcases pl_cs (rowF st.2.1 e f) z with ⟨p, hp, hp31, rfl⟩ | hz
    · have hA := hw.2.1.2.2 p
      simp only [vP_t hp hp31, nI_toInt hp31, Int.toNat_natCast]
      rw [if_pos (show (0 : Int) ≤ (p : Int) ∧ (p : Int) < ((rowF st.2.1 e f).length : Int) by omega), if_neg (show ¬ (nI 1 : Int32) = 0 by decide), m37k hw hp]
      cases eo : okS f c with
      | false =>
        rw [if_pos rfl, if_neg (fun q => by cases q.2)]
        exact ⟨h, rfl, r, Fr.rf⟩
      | true =>
        obtain ⟨k, hk, rfl⟩ := okS_n eo
        rw [if_neg (show ¬ (true = false) by decide), if_pos ⟨trivial, rfl⟩, nTN (by omega)]
        simp only [sm_gI_s, sm_gR_s, sm_gJ_s, sm_cR_s, sm_al_s, sm_sw_s, sm_tl1, sm_tl0, sm_ap0, sm_ap1, List.getElem?_cons_zero, List.getElem?_cons_succ, nk10, nk11, if_true, eq_self, b56_42, nI_eq (show nA (rowF st.2.1 e f) p < 2 ^ 31 by omega) (show 63 < 2 ^ 31 by omega)]
        by_cases h1 : nA (rowF st.2.1 e f) p = 63
        · rw [if_pos h1, if_pos h1]
          obtain ⟨h2', e2, c2, f2, k2⟩ := m43 (X := X) r
          have hw2 := c2.2.2.1.row (f := f) he
          obtain ⟨h3, e3, q3, k3⟩ := m38 (X := X) (c := k) hw2 hp (by omega)
          have c3 := c2.sheet (k3.mono (by omega) (by omega)) (c2.2.2.1.put he k3 q3)
          have hlen : e < (setR st.2.1 e f p k).1.length := by
            show e < (st.2.1.1.set e _).length
            rw [List.length_set]; exact he
          rw [vO rc.1, e2]
          simp only [sm_gI_s, sm_gR_s, sm_gJ_s, sm_cR_s, sm_al_s, sm_sw_s, sm_tl1, sm_tl0, sm_ap0, sm_ap1, List.getElem?_cons_zero, List.getElem?_cons_succ, nk10, nk11, if_true, eq_self, b56_54, vO hw2.1]
          rw [pk_char, pk_tn (by omega), Nat.mod_eq_of_lt (by omega), e3]
          simp only [sm_gI_s, sm_gR_s, sm_gJ_s, sm_cR_s, sm_al_s, sm_sw_s, sm_tl1, sm_tl0, sm_ap0, sm_ap1, List.getElem?_cons_zero, List.getElem?_cons_succ, nk10, nk11, if_true, eq_self, b56_63, fO c3.1, vO c3.2.2.1.1.1, m55 c3.2.2.1 hlen, b56_71]
          exact ⟨_, rfl, ⟨c3, false, false, (f2 _).fr k3 (by omega)⟩, (k2.mono (by omega) (by omega)).s (k3.mono (by omega) (by omega))⟩
        · rw [if_neg h1, if_neg h1]
          exact ⟨h, rfl, r, Fr.rf⟩
    · rw [if_neg hz, if_pos (show (nI 0 : Int32) = 0 from rfl), if_neg (fun q => hz (of_decide_eq_true q.1))]
      exact ⟨h, rfl, r, Fr.rf⟩
  · rw [if_neg (by rw [vR_f hv]; decide)]
    simp only [c56, b56_0, fO rc.1, sm_gI_s, sm_gR_s, sm_gJ_s, sm_cR_s, sm_al_s, sm_sw_s, sm_tl1, sm_tl0, sm_ap0, sm_ap1, List.getElem?_cons_zero, List.getElem?_cons_succ, nk10, nk11, if_true, eq_self, vO rc.2.2.1.1.1, m51n rc.2.2.1.1 h6 hv, b56_9_1, b56_34]
    exact ⟨h, rfl, r, Fr.rf⟩
def opSlacks (st : St) (x : Int32) : Int32 × St := if 0 ≤ x.toInt ∧ x.toInt ≤ 2 then (if x.toInt.toNat = st.2.1.2.1 then (-nI 2, st) else (nI st.2.1.2.1, chg st (st.2.1.1, x.toInt.toNat, st.2.1.2.2))) else (-nI 1, st)
theorem SheetAt.sl {h : smH} {S sl : Nat} {to : Option Nat} {s : Sh} (r : SheetAt h S s) (h2 : sl ≤ 2) (h3 : ∀ t, to = some t → t ≤ 9999) : SheetAt (sm_w h S (.inr (5, [.ref (S + 1), .ref (S + 14), .int (nI s.1.length), .int (nI sl), .int (oI to)]))) S (s.1, sl, to) := by
  obtain ⟨a, b, W, c, d⟩ := r
  exact ⟨a.put Fr.w w_eq, ⟨b.1, h2, h3⟩, W, c.ob Fr.w, d⟩
theorem m57 {X : smX} {h : smH} {B : Nat} {st : St} (r : RepC h B st) (x : Int32) : ∃ h', sm_C PP X 57 [.ref B, .int x] h = some (some (.int (opSlacks st x).1), h') ∧ RepC h' B (opSlacks st x).2 ∧ Fr h h' B (B + 338) := by
  have rc := r.1
  have hs := rc.2.2.1.2.1.2.1
  unfold opSlacks
  by_cases hv : 0 ≤ x.toInt ∧ x.toInt ≤ 2
  · rw [if_pos hv]
    obtain ⟨c, hc, rfl⟩ := i_nat hv.1
    rw [nI_toInt hc] at hv ⊢
    simp only [Int.toNat_natCast]
    rw [c57, b57_0, if_neg (nI_pos hc), if_pos (nI_le (by omega) (by omega))]
    simp only [fO rc.1, sm_gI_s, sm_gR_s, sm_gJ_s, sm_cR_s, sm_al_s, sm_sw_s, sm_tl1, sm_tl0, sm_ap0, sm_ap1, List.getElem?_cons_zero, List.getElem?_cons_succ, nk10, nk11, if_true, eq_self, fO rc.2.2.1.1.1, nI_eq hc (show st.2.1.2.1 < 2 ^ 31 by omega)]
    by_cases h1 : c = st.2.1.2.1
    · rw [if_pos h1, if_pos h1]
      exact ⟨h, rfl, r, Fr.rf⟩
    · rw [if_neg h1, if_neg h1]
      obtain ⟨h2, e2, c2, f2, k2⟩ := m43 (X := X) r
      have s3 := c2.2.2.1.sl (sl := c) (to := st.2.1.2.2) (by omega) c2.2.2.1.2.1.2.2
      have k3 : Fr h2 (sm_w h2 (B + 3) (.inr (5, [.ref (B + 3 + 1), .ref (B + 3 + 14), .int (nI st.2.1.1.length), .int (nI c), .int (oI st.2.1.2.2)]))) (B + 3) (B + 4) := Fr.w
      rw [vO rc.1, e2]
      simp only [sm_gI_s, sm_gR_s, sm_gJ_s, sm_cR_s, sm_al_s, sm_sw_s, sm_tl1, sm_tl0, sm_ap0, sm_ap1, List.getElem?_cons_zero, List.getElem?_cons_succ, nk10, nk11, if_true, eq_self, b57_31, fO c2.1]
      rw [pO c2.2.2.1.1.1 (by show 3 < 5; omega)]
      exact ⟨_, rfl, ⟨c2.sheet (k3.mono (by omega) (by omega)) s3, false, false, (f2 _).fr k3 (by omega)⟩, (k2.mono (by omega) (by omega)).s (k3.mono (by omega) (by omega))⟩
  · rw [if_neg hv]
    refine ⟨h, ?_, r, Fr.rf⟩
    rw [c57, b57_0]
    simp only [i_lt, i_le, i_0, nI_toInt (show 2 < 2 ^ 31 by omega), b57_9]
    split
    · rfl
    · rw [if_neg (by omega)]
/-- a TOTAL that may be told -/
def totO (x : Int32) : Option (Option Nat) := if x = -nI 9 then some none else if 0 ≤ x.toInt ∧ x.toInt ≤ 9999 then some (some x.toInt.toNat) else none
theorem totO_ok {x : Int32} {o : Option Nat} (h : totO x = some o) : x = oI o ∧ ∀ t, o = some t → t ≤ 9999 := by
  unfold totO at h
  split at h
  · rename_i q
    cases h
    exact ⟨q, fun t ht => by cases ht⟩
  · split at h
    · rename_i q
      obtain ⟨k, hk, rfl⟩ := i_nat q.1
      rw [nI_toInt hk] at q
      rw [nTN hk] at h
      cases h
      exact ⟨rfl, fun t ht => by cases ht; omega⟩
    · cases h
theorem oI_inj {a b : Option Nat} (ha : ∀ k, a = some k → k < 2 ^ 30) (hb : ∀ k, b = some k → k < 2 ^ 30) : (oI a = oI b) = (a = b) := by
  cases a with
  | none => cases b with
    | none => exact propext ⟨fun _ => rfl, fun _ => rfl⟩
    | some k => exact propext ⟨fun h => absurd h.symm (neg9_ne (hb k rfl)), fun h => by cases h⟩
  | some j => cases b with
    | none => exact propext ⟨fun h => absurd h (neg9_ne (ha j rfl)), fun h => by cases h⟩
    | some k =>
      have := ha j rfl
      have := hb k rfl
      exact propext ⟨fun h => by rw [(nI_eq (by omega) (by omega)).mp h], fun h => by rw [h]⟩
def opTotals (st : St) (x : Int32) : Int32 × St := match totO x with
  | some o => if o = st.2.1.2.2 then (-nI 2, st) else (oI st.2.1.2.2, chg st (st.2.1.1, st.2.1.2.1, o))
  | none => (-nI 1, st)
theorem m58 {X : smX} {h : smH} {B : Nat} {st : St} (r : RepC h B st) (x : Int32) : ∃ h', sm_C PP X 58 [.ref B, .int x] h = some (some (.int (opTotals st x).1), h') ∧ RepC h' B (opTotals st x).2 ∧ Fr h h' B (B + 338) := by
  have rc := r.1
  have ht := rc.2.2.1.2.1.2.2
  unfold opTotals
  have hE : totO x = none → sm_C PP X 58 [.ref B, .int x] h = some (some (.int (-nI 1)), h) := fun e => by
    unfold totO at e
    split at e
    · cases e
    · split at e
      · cases e
      · rename_i q1 q2
        rw [c58, b58_0, if_neg q1]
        simp only [i_lt, i_le, i_0, nI_toInt (show 9999 < 2 ^ 31 by omega), b58_17]
        split
        · rfl
        · rw [if_neg (by omega)]
  have hS : ∀ o, totO x = some o → sm_C PP X 58 [.ref B, .int x] h = sm_E PP X 58 19 [(0, .ref B), (1, .int (oI o))] [] h := fun o e => by
    obtain ⟨rfl, g2⟩ := totO_ok e
    rw [c58, b58_0]
    cases o with
    | none => rw [if_pos (show oI none = -nI 9 from rfl)]
    | some t =>
      have := g2 t rfl
      rw [if_neg (show ¬ oI (some t) = -nI 9 from neg9_ne (by omega)), if_neg (show ¬ oI (some t) < 0 from nI_pos (by omega)), if_pos (show oI (some t) ≤ nI 9999 from nI_le (by omega) (by omega))]
  cases eo : totO x with
  | none => exact ⟨h, hE eo, r, Fr.rf⟩
  | some o =>
    obtain ⟨-, g2⟩ := totO_ok eo
    rw [hS o eo, b58_19]
    simp only [fO rc.1, sm_gI_s, sm_gR_s, sm_gJ_s, sm_cR_s, sm_al_s, sm_sw_s, sm_tl1, sm_tl0, sm_ap0, sm_ap1, List.getElem?_cons_zero, List.getElem?_cons_succ, nk10, nk11, if_true, eq_self, fO rc.2.2.1.1.1, oI_inj (fun k hk => by have := g2 k hk; omega) (fun k hk => by have := ht k hk; omega)]
    by_cases h1 : o = st.2.1.2.2
    · rw [if_pos h1, if_pos h1]
      exact ⟨h, rfl, r, Fr.rf⟩
    · rw [if_neg h1, if_neg h1]
      obtain ⟨h2, e2, c2, f2, k2⟩ := m43 (X := X) r
      have s3 := c2.2.2.1.sl (sl := st.2.1.2.1) (to := o) c2.2.2.1.2.1.2.1 g2
      have k3 : Fr h2 (sm_w h2 (B + 3) (.inr (5, [.ref (B + 3 + 1), .ref (B + 3 + 14), .int (nI st.2.1.1.length), .int (nI st.2.1.2.1), .int (oI o)]))) (B + 3) (B + 4) := Fr.w
      rw [vO rc.1, e2]
      simp only [sm_gI_s, sm_gR_s, sm_gJ_s, sm_cR_s, sm_al_s, sm_sw_s, sm_tl1, sm_tl0, sm_ap0, sm_ap1, List.getElem?_cons_zero, List.getElem?_cons_succ, nk10, nk11, if_true, eq_self, b58_39, fO c2.1]
      rw [pO c2.2.2.1.1.1 (by show 4 < 5; omega)]
      exact ⟨_, rfl, ⟨c2.sheet (k3.mono (by omega) (by omega)) s3, false, false, (f2 _).fr k3 (by omega)⟩, (k2.mono (by omega) (by omega)).s (k3.mono (by omega) (by omega))⟩
def opUndo (st : St) : Int32 × St := match st.2.2.1 with
  | [] => (-nI 2, st)
  | s :: p => (nI p.length, (st.1, s, p, st.2.2.2))
theorem m60 {X : smX} {h : smH} {B : Nat} {st : St} (r : RepC h B st) : ∃ h', sm_C PP X 60 [.ref B] h = some (some (.int (opUndo st).1), h') ∧ RepC h' B (opUndo st).2 ∧ Fr h h' B (B + 338) := by
  obtain ⟨rc, K, L, rf⟩ := id r
  have rH := rc.2.2.2.1
  unfold opUndo
  simp only [c60, b60_0, fO rc.1, sm_gI_s, sm_gR_s, sm_gJ_s, sm_cR_s, sm_al_s, sm_sw_s, sm_tl1, sm_tl0, sm_ap0, sm_ap1, List.getElem?_cons_zero, List.getElem?_cons_succ, nk10, nk11, if_true, eq_self, fO rH.choose_spec.choose_spec.1]
  cases ep : st.2.2.1 with
  | nil =>
    rw [if_pos (by decide)]
    exact ⟨h, rfl, r, Fr.rf⟩
  | cons s p =>
    rw [ep] at rH
    have hl : p.length + 1 ≤ 8 := rH.choose_spec.choose_spec.2.2.2.1
    rw [if_neg (show ¬ nI (s :: p).length = 0 from nI_ne0 (n := p.length + 1) (by omega) (by omega))]
    obtain ⟨h1, e1, q1, q2, k1⟩ := m59 (X := X) (show B + 3 + 27 = B + 30 by omega) rH rc.2.2.1
    have c1 : Core h1 B (st.1, s, p, st.2.2.2) := ⟨by rw [k1.2 _ (by omega)]; exact rc.1, rc.2.1.fr k1 (by omega), q2, q1, rc.2.2.2.2.1.fr k1 (by omega), rc.2.2.2.2.2.fr k1 (by omega)⟩
    have f1 := rf.fr k1 (by omega)
    obtain ⟨h2, e2, g2, k2⟩ := m42A (X := X) f1 s
    obtain ⟨ld1, W1, a1, -⟩ := f1
    have c2 := c1.out k2 (by omega)
    rw [vO rc.2.2.2.1.choose_spec.choose_spec.1, e1]
    simp only [sm_gI_s, sm_gR_s, sm_gJ_s, sm_cR_s, sm_al_s, sm_sw_s, sm_tl1, sm_tl0, sm_ap0, sm_ap1, List.getElem?_cons_zero, List.getElem?_cons_succ, nk10, nk11, if_true, eq_self, b60_24, fO c1.1, vO a1.1.1, e2, b60_31, fO c2.1, fO c2.2.2.2.1.choose_spec.choose_spec.1]
    exact ⟨h2, rfl, ⟨c2, false, false, g2⟩, (k1.mono (by omega) (by omega)).s (k2.mono (by omega) (by omega))⟩
