/-! what is asked: class WornSums -/
theorem e_cs (n : Nat) (x : Int32) : (∃ e, e < n ∧ e < 2 ^ 31 ∧ x = nI e) ∨ ¬ (0 ≤ x.toInt ∧ x.toInt < n) := by
  by_cases hv : 0 ≤ x.toInt ∧ x.toInt < n
  · obtain ⟨p, hp, rfl⟩ := i_nat hv.1
    rw [nI_toInt hp] at hv
    exact Or.inl ⟨p, by omega, hp, rfl⟩
  · exact Or.inr hv
def vN (n : Nat) (x : Int32) : Bool := decide (0 ≤ x.toInt ∧ x.toInt < n)
theorem vN_t {n e : Nat} (he : e < n) (h31 : e < 2 ^ 31) : vN n (nI e) = true := by
  unfold vN
  rw [nI_toInt h31]
  exact decide_eq_true (by omega)
theorem vN_f {n : Nat} {x : Int32} (h : ¬ (0 ≤ x.toInt ∧ x.toInt < n)) : vN n x = false := decide_eq_false h
def qEn (s : Sh) (e : Nat) (y : Int32) : Int32 := if y = nI 0 then nI (en s e).1.length else if y = nI 1 then nI (en s e).2.length else if y = nI 2 then nI (wornE (en s e)) else if y = nI 3 then nI (agE s e).2.1 else if y = nI 4 then nI (agE s e).2.2 else if y = nI 5 then nI (agE s e).1.length else -nI 1
def qEntry (st : St) (x y : Int32) : Int32 := if vN st.2.1.1.length x = true then qEn st.2.1 x.toInt.toNat y else -nI 1
theorem m71_in {X : smX} {h : smH} {B e : Nat} {st : St} (r : RepC h B st) (he : e < st.2.1.1.length) (y : Int32) : ∃ h', sm_E PP X 71 14 [(0, .ref B), (1, .int (nI e)), (2, .int y)] [.int y] h = some (some (.int (qEn st.2.1 e y)), h') ∧ RepC h' B st ∧ Fr h h' B (B + 338) := by
  have rc := r.1
  unfold qEn
  rw [b71_14]
  have up : ∀ v : Int32, (∃ h', sm_E PP X 71 81 [(0, .ref B), (1, .int (nI e))] [] h = some (some (.int (nI (agE st.2.1 e).2.1)), h') ∧ RepC h' B st ∧ Fr h h' B (B + 338)) ∧ (∃ h', sm_E PP X 71 90 [(0, .ref B), (1, .int (nI e))] [] h = some (some (.int (nI (agE st.2.1 e).2.2)), h') ∧ RepC h' B st ∧ Fr h h' B (B + 338)) ∧ ∃ h', sm_E PP X 71 99 [(0, .ref B), (1, .int (nI e))] [] h = some (some (.int (nI (agE st.2.1 e).1.length)), h') ∧ RepC h' B st ∧ Fr h h' B (B + 338) := fun _ => by
    obtain ⟨h1, L, e1, c1, f1, a1, k1⟩ := m70 (X := X) r he
    have rr : RepC h1 B st ∧ Fr h h1 B (B + 338) := ⟨⟨c1, true, L, f1⟩, k1.mono (by omega) (by omega)⟩
    refine ⟨⟨h1, ?_, rr⟩, ⟨h1, ?_, rr⟩, h1, ?_, rr⟩
    · simp only [b71_81, vO rc.1, e1, sm_gI_s, sm_gR_s, sm_gJ_s, sm_cR_s, sm_al_s, sm_sw_s, sm_tl1, sm_tl0, sm_ap0, sm_ap1, List.getElem?_cons_zero, List.getElem?_cons_succ, nk10, nk11, if_true, eq_self, b71_86, fO a1.1]
    · simp only [b71_90, vO rc.1, e1, sm_gI_s, sm_gR_s, sm_gJ_s, sm_cR_s, sm_al_s, sm_sw_s, sm_tl1, sm_tl0, sm_ap0, sm_ap1, List.getElem?_cons_zero, List.getElem?_cons_succ, nk10, nk11, if_true, eq_self, b71_95, fO a1.1]
    · simp only [b71_99, vO rc.1, e1, sm_gI_s, sm_gR_s, sm_gJ_s, sm_cR_s, sm_al_s, sm_sw_s, sm_tl1, sm_tl0, sm_ap0, sm_ap1, List.getElem?_cons_zero, List.getElem?_cons_succ, nk10, nk11, if_true, eq_self, b71_104, fO a1.1]
  by_cases h0 : y = nI 0
  · subst h0
    rw [if_neg (by decide), if_pos rfl]
    show ∃ h', sm_E PP X 71 52 [(0, .ref B), (1, .int (nI e))] [] h = _ ∧ _
    simp only [b71_52, fO rc.1, sm_gI_s, sm_gR_s, sm_gJ_s, sm_cR_s, sm_al_s, sm_sw_s, sm_tl1, sm_tl0, sm_ap0, sm_ap1, List.getElem?_cons_zero, List.getElem?_cons_succ, nk10, nk11, if_true, eq_self, vO rc.2.2.1.1.1, m61w rc.2.2.1 he, b71_61]
    exact ⟨h, rfl, r, Fr.rf⟩
  · rw [if_neg h0]
    by_cases h1 : y = nI 1
    · subst h1
      rw [if_neg (by decide), if_pos rfl]
      show ∃ h', sm_E PP X 71 62 [(0, .ref B), (1, .int (nI e))] [] h = _ ∧ _
      simp only [b71_62, fO rc.1, sm_gI_s, sm_gR_s, sm_gJ_s, sm_cR_s, sm_al_s, sm_sw_s, sm_tl1, sm_tl0, sm_ap0, sm_ap1, List.getElem?_cons_zero, List.getElem?_cons_succ, nk10, nk11, if_true, eq_self, vO rc.2.2.1.1.1, m61f rc.2.2.1 he, b71_71]
      exact ⟨h, rfl, r, Fr.rf⟩
    · rw [if_neg h1]
      by_cases h2 : y = nI 2
      · subst h2
        rw [if_neg (by decide), if_pos rfl]
        show ∃ h', sm_E PP X 71 72 [(0, .ref B), (1, .int (nI e))] [] h = _ ∧ _
        simp only [b71_72, fO rc.1, sm_gI_s, sm_gR_s, sm_gJ_s, sm_cR_s, sm_al_s, sm_sw_s, sm_tl1, sm_tl0, sm_ap0, sm_ap1, List.getElem?_cons_zero, List.getElem?_cons_succ, nk10, nk11, if_true, eq_self, vO rc.2.2.1.1.1, m55 rc.2.2.1 he, b71_80]
        exact ⟨h, rfl, r, Fr.rf⟩
      · rw [if_neg h2]
        by_cases h3 : y = nI 3
        · subst h3
          rw [if_neg (by decide), if_pos rfl]
          exact (up 0).1
        · rw [if_neg h3]
          by_cases h4 : y = nI 4
          · subst h4
            rw [if_neg (by decide), if_pos rfl]
            exact (up 0).2.1
          · rw [if_neg h4]
            by_cases h5 : y = nI 5
            · subst h5
              rw [if_neg (by decide), if_pos rfl]
              exact (up 0).2.2
            · rw [if_neg h5, if_pos (by
                simp only [i_eq, nI_toInt (show 0 < 2 ^ 31 by omega), nI_toInt (show 1 < 2 ^ 31 by omega), nI_toInt (show 2 < 2 ^ 31 by omega), nI_toInt (show 3 < 2 ^ 31 by omega), nI_toInt (show 4 < 2 ^ 31 by omega), nI_toInt (show 5 < 2 ^ 31 by omega)] at h0 h1 h2 h3 h4 h5
                omega), b71_108]
              exact ⟨h, rfl, r, Fr.rf⟩
theorem m71 {X : smX} {h : smH} {B : Nat} {st : St} (r : RepC h B st) (x y : Int32) : ∃ h', sm_C PP X 71 [.ref B, .int x, .int y] h = some (some (.int (qEntry st x y)), h') ∧ RepC h' B st ∧ Fr h h' B (B + 338) := by
  have rc := r.1
  have h6 := rc.2.2.1.2.1.1
  unfold qEntry
  simp only [c71, b71_0, fO rc.1, sm_gI_s, sm_gR_s, sm_gJ_s, sm_cR_s, sm_al_s, sm_sw_s, sm_tl1, sm_tl0, sm_ap0, sm_ap1, List.getElem?_cons_zero, List.getElem?_cons_succ, nk10, nk11, if_true, eq_self, vO rc.2.2.1.1.1, m48 rc.2.2.1.1 h6, b71_8]
  rcases e_cs st.2.1.1.length x with ⟨e, he, h31, rfl⟩ | hv
  · simp only [vN_t he h31, if_true, nI_toInt h31, Int.toNat_natCast]
    rw [if_pos (show (0 : Int) ≤ (e : Int) ∧ (e : Int) < (st.2.1.1.length : Int) by omega), if_neg (show ¬ (nI 1 : Int32) = 0 by decide)]
    exact m71_in r he y
  · rw [if_neg hv, if_pos (show (nI 0 : Int32) = 0 from rfl), if_neg (by rw [vN_f hv]; decide)]
    exact ⟨h, rfl, r, Fr.rf⟩
def qSign (st : St) (x y z : Int32) : Int32 := if vR st.2.1 x y = true then (if vP (rowF st.2.1 x.toInt.toNat y.toInt.toNat) z = true then nI (nA (rowF st.2.1 x.toInt.toNat y.toInt.toNat) z.toInt.toNat) else -nI 1) else -nI 1
theorem m72 {X : smX} {h : smH} {B : Nat} {st : St} (r : RepC h B st) (x y z : Int32) : sm_C PP X 72 [.ref B, .int x, .int y, .int z] h = some (some (.int (qSign st x y z)), h) := by
  have rc := r.1
  have h6 := rc.2.2.1.2.1.1
  unfold qSign
  rcases row_cs st.2.1 x y with ⟨e, f, he, hf, he31, rfl, rfl⟩ | hv
  · have hw := rc.2.2.1.row (f := f) he
    simp only [vR_t he hf he31, if_true, nTN he31, nTN (show f < 2 ^ 31 by omega)]
    simp only [c72, b72_0, fO rc.1, sm_gI_s, sm_gR_s, sm_gJ_s, sm_cR_s, sm_al_s, sm_sw_s, sm_tl1, sm_tl0, sm_ap0, sm_ap1, List.getElem?_cons_zero, List.getElem?_cons_succ, nk10, nk11, if_true, eq_self, vO rc.2.2.1.1.1, m51k rc.2.2.1 he hf, b72_9, vO hw.1, m36 hw, b72_22]
    rcases pl_cs (rowF st.2.1 e f) z with ⟨p, hp, hp31, rfl⟩ | hz
    · simp only [vP_t hp hp31, if_true, nI_toInt hp31, Int.toNat_natCast]
      rw [if_pos (show (0 : Int) ≤ (p : Int) ∧ (p : Int) < ((rowF st.2.1 e f).length : Int) by omega), if_neg (show ¬ (nI 1 : Int32) = 0 by decide), m37k hw hp]
      simp only [sm_gI_s, sm_gR_s, sm_gJ_s, sm_cR_s, sm_al_s, sm_sw_s, sm_tl1, sm_tl0, sm_ap0, sm_ap1, List.getElem?_cons_zero, List.getElem?_cons_succ, nk10, nk11, if_true, eq_self, b72_35]
    · rw [if_neg hz, if_pos (show (nI 0 : Int32) = 0 from rfl), b72_25, b72_35, if_neg (by unfold vP; rw [decide_eq_false hz]; decide)]
  · rw [if_neg (by rw [vR_f hv]; decide)]
    simp only [c72, b72_0, fO rc.1, sm_gI_s, sm_gR_s, sm_gJ_s, sm_cR_s, sm_al_s, sm_sw_s, sm_tl1, sm_tl0, sm_ap0, sm_ap1, List.getElem?_cons_zero, List.getElem?_cons_succ, nk10, nk11, if_true, eq_self, vO rc.2.2.1.1.1, m51n rc.2.2.1.1 h6 hv, b72_9_1, b72_25, b72_35]
def qDoubt (st : St) (x n y : Int32) : Int32 := if vR st.2.1 x y = true then (if vN 1000 n = true then oI (if y.toInt.toNat = 0 then dW (en st.2.1 x.toInt.toNat).1 st.2.1.2.1 n.toInt.toNat else dF (en st.2.1 x.toInt.toNat).2 n.toInt.toNat) else -nI 1) else -nI 1
theorem m73 {X : smX} {h : smH} {B : Nat} {st : St} (r : RepC h B st) (x n y : Int32) : sm_C PP X 73 [.ref B, .int x, .int n, .int y] h = some (some (.int (qDoubt st x n y)), h) := by
  have rc := r.1
  have h6 := rc.2.2.1.2.1.1
  have hs := rc.2.2.1.2.1.2.1
  have rN := rc.2.2.2.2.2
  unfold qDoubt
  rcases row_cs st.2.1 x y with ⟨e, f, he, hf, he31, rfl, rfl⟩ | hv
  · have hw := rc.2.2.1.row (f := f) he
    simp only [vR_t he hf he31, if_true, nTN he31, nTN (show f < 2 ^ 31 by omega)]
    simp only [c73, b73_0, fO rc.1, sm_gI_s, sm_gR_s, sm_gJ_s, sm_cR_s, sm_al_s, sm_sw_s, sm_tl1, sm_tl0, sm_ap0, sm_ap1, List.getElem?_cons_zero, List.getElem?_cons_succ, nk10, nk11, if_true, eq_self, vO rc.2.2.1.1.1, m51k rc.2.2.1 he hf, b73_9, m13, b73_20, fO rc.2.2.1.1.1, vO rN.1, b73_23, b73_46, b73_55]
    rcases e_cs 1000 n with ⟨m, hm, hm31, rfl⟩ | hn
    · simp only [vN_t hm hm31, if_true, nI_toInt hm31, Int.toNat_natCast]
      rw [if_pos (show (0 : Int) ≤ (m : Int) ∧ (m : Int) < 1000 by omega), if_neg (show ¬ (nI 1 : Int32) = 0 by decide)]
      by_cases h0 : f = 0
      · subst h0
        rw [if_pos (show (nI 0 : Int32) = 0 from rfl), if_pos rfl, m62 rN hw hm hs]
        simp only [sm_gI_s, sm_gR_s, sm_gJ_s, sm_cR_s, sm_al_s, sm_sw_s, sm_tl1, sm_tl0, sm_ap0, sm_ap1, List.getElem?_cons_zero, List.getElem?_cons_succ, nk10, nk11, if_true, eq_self, b73_46, b73_55]
        rfl
      · obtain rfl : f = 1 := by omega
        rw [if_neg (show ¬ (nI 1 : Int32) = 0 by decide), if_neg h0, m65 hw hm]
        simp only [sm_gI_s, sm_gR_s, sm_gJ_s, sm_cR_s, sm_al_s, sm_sw_s, sm_tl1, sm_tl0, sm_ap0, sm_ap1, List.getElem?_cons_zero, List.getElem?_cons_succ, nk10, nk11, if_true, eq_self, b73_55]
        rfl
    · rw [if_neg (show ¬ (0 ≤ n.toInt ∧ n.toInt < 1000) from fun q => hn (by omega)), if_pos (show (nI 0 : Int32) = 0 from rfl), if_neg (show ¬ vN 1000 n = true by rw [vN_f hn]; decide)]
  · rw [if_neg (by rw [vR_f hv]; decide)]
    simp only [c73, b73_0, fO rc.1, sm_gI_s, sm_gR_s, sm_gJ_s, sm_cR_s, sm_al_s, sm_sw_s, sm_tl1, sm_tl0, sm_ap0, sm_ap1, List.getElem?_cons_zero, List.getElem?_cons_succ, nk10, nk11, if_true, eq_self, vO rc.2.2.1.1.1, m51n rc.2.2.1.1 h6 hv, b73_9_1, b73_23]
def qRank (s : Sh) (e k f : Nat) : Int32 := match ixR (agE s e).1 k (agE s e).1.length 0 with
  | none => -nI 9
  | some i => if f = 0 then nI (pN (agE s e).1 i) else nI (pD (agE s e).1 i)
def qRanked (st : St) (x k y : Int32) : Int32 := if vR st.2.1 x y = true then (if 0 ≤ k.toInt then qRank st.2.1 x.toInt.toNat k.toInt.toNat y.toInt.toNat else -nI 1) else -nI 1
theorem m78 {X : smX} {h : smH} {B : Nat} {st : St} (r : RepC h B st) (x k y : Int32) : ∃ h', sm_C PP X 78 [.ref B, .int x, .int k, .int y] h = some (some (.int (qRanked st x k y)), h') ∧ RepC h' B st ∧ Fr h h' B (B + 338) := by
  have rc := r.1
  have h6 := rc.2.2.1.2.1.1
  unfold qRanked
  simp only [c78, b78_0, fO rc.1, sm_gI_s, sm_gR_s, sm_gJ_s, sm_cR_s, sm_al_s, sm_sw_s, sm_tl1, sm_tl0, sm_ap0, sm_ap1, List.getElem?_cons_zero, List.getElem?_cons_succ, nk10, nk11, if_true, eq_self, vO rc.2.2.1.1.1, m48 rc.2.2.1.1 h6, b78_8, b78_24]
  rcases row_cs st.2.1 x y with ⟨e, f, he, hf, he31, rfl, rfl⟩ | hv
  · simp only [vR_t he hf he31, if_true, nI_toInt he31, nI_toInt (show f < 2 ^ 31 by omega), Int.toNat_natCast]
    rw [if_pos (show (0 : Int) ≤ (e : Int) ∧ (e : Int) < (st.2.1.1.length : Int) by omega), if_neg (show ¬ (nI 1 : Int32) = 0 by decide)]
    by_cases hk : 0 ≤ k.toInt
    · obtain ⟨j, hj, rfl⟩ := i_nat hk
      rw [if_neg (nI_pos hj), if_neg (nI_pos (by omega)), if_pos (nI_le (by omega) (by omega)), if_pos hk, vO rc.1]
      obtain ⟨h1, L, e1, c1, f1, a1, k1⟩ := m70 (X := X) r he
      have hl := a1.2.1
      have n9 : (oI (ixR (agE st.2.1 e).1 j (agE st.2.1 e).1.length 0) = -nI 9) = (ixR (agE st.2.1 e).1 j (agE st.2.1 e).1.length 0 = none) := oI_none (fun i hi => by have := ixR_lt (agE st.2.1 e).1.length 0 (by omega) hi; omega)
      simp only [e1, sm_gI_s, sm_gR_s, sm_gJ_s, sm_cR_s, sm_al_s, sm_sw_s, sm_tl1, sm_tl0, sm_ap0, sm_ap1, List.getElem?_cons_zero, List.getElem?_cons_succ, nk10, nk11, if_true, eq_self, b78_31, vO a1.1, m76 a1 hj, b78_39, nTN hj, n9]
      refine ⟨h1, ?_, ⟨c1, true, L, f1⟩, k1.mono (by omega) (by omega)⟩
      unfold qRank
      cases ei : ixR (agE st.2.1 e).1 j (agE st.2.1 e).1.length 0 with
      | none => rw [if_pos rfl]
      | some i =>
        have hi := ixR_lt (agE st.2.1 e).1.length 0 (by omega) ei
        rw [if_neg (by intro q; cases q), oIs, m77 a1 hi, m74 a1 hi]
        simp only [sm_gI_s, sm_gR_s, sm_gJ_s, sm_cR_s, sm_al_s, sm_sw_s, sm_tl1, sm_tl0, sm_ap0, sm_ap1, List.getElem?_cons_zero, List.getElem?_cons_succ, nk10, nk11, if_true, eq_self, b78_62, b78_72]
        by_cases h0 : f = 0
        · subst h0
          rw [if_pos (show (nI 0 : Int32) = 0 from rfl), if_pos rfl]
        · obtain rfl : f = 1 := by omega
          rw [if_neg (show ¬ (nI 1 : Int32) = 0 by decide), if_neg h0]
    · rw [if_pos (show k < 0 by rw [i_lt, i_0]; omega), if_neg hk]
      exact ⟨h, rfl, r, Fr.rf⟩
  · rw [if_neg (show ¬ vR st.2.1 x y = true by rw [vR_f hv]; decide)]
    refine ⟨h, ?_, r, Fr.rf⟩
    by_cases h1 : 0 ≤ x.toInt ∧ x.toInt < st.2.1.1.length
    · rw [if_pos h1, if_neg (show ¬ (nI 1 : Int32) = 0 by decide)]
      split
      · rfl
      · split
        · rfl
        · rename_i q1 q2
          rw [i_lt, i_0] at q2
          rw [if_neg (by rw [i_le, nI_toInt (by omega)]; omega)]
    · rw [if_neg h1, if_pos (show (nI 0 : Int32) = 0 from rfl)]
def qWord (n k : Int32) : Int32 := if vN 1000 n = true then (if k = -nI 1 then nI (spN n.toInt.toNat).length else if 0 ≤ k.toInt then (if k.toInt.toNat < (spN n.toInt.toNat).length then nI (nA (spN n.toInt.toNat) k.toInt.toNat) else -nI 9) else -nI 1) else -nI 1
theorem m79 {X : smX} {h : smH} {B : Nat} {st : St} (r : RepC h B st) (n k : Int32) : sm_C PP X 79 [.ref B, .int n, .int k] h = some (some (.int (qWord n k)), h) := by
  have rc := r.1
  have rN := rc.2.2.2.2.2
  unfold qWord
  simp only [c79, b79_0, fO rc.1, sm_gI_s, sm_gR_s, sm_gJ_s, sm_cR_s, sm_al_s, sm_sw_s, sm_tl1, sm_tl0, sm_ap0, sm_ap1, List.getElem?_cons_zero, List.getElem?_cons_succ, nk10, nk11, if_true, eq_self, m13, b79_4, vO rN.1, b79_12]
  rcases e_cs 1000 n with ⟨m, hm, hm31, rfl⟩ | hn
  · simp only [vN_t hm hm31, if_true, nI_toInt hm31, Int.toNat_natCast]
    rw [if_pos (show (0 : Int) ≤ (m : Int) ∧ (m : Int) < 1000 by omega), if_neg (show ¬ (nI 1 : Int32) = 0 by decide), m16 rN hm]
    by_cases h1 : k = -nI 1
    · subst h1
      rw [if_pos (by decide), if_pos rfl, if_pos rfl]
      simp only [sm_gI_s, sm_gR_s, sm_gJ_s, sm_cR_s, sm_al_s, sm_sw_s, sm_tl1, sm_tl0, sm_ap0, sm_ap1, List.getElem?_cons_zero, List.getElem?_cons_succ, nk10, nk11, if_true, eq_self, b79_27, b79_39]
    · rw [if_neg h1, if_neg h1]
      have hm1 : (-nI 1).toInt = -1 := by decide
      rw [i_eq, hm1] at h1
      by_cases h2 : 0 ≤ k.toInt
      · obtain ⟨j, hj, rfl⟩ := i_nat h2
        rw [if_pos (by rw [i_le, hm1]; omega), if_pos h2, m17 rN hm hj, nTN hj]
        simp only [sm_gI_s, sm_gR_s, sm_gJ_s, sm_cR_s, sm_al_s, sm_sw_s, sm_tl1, sm_tl0, sm_ap0, sm_ap1, List.getElem?_cons_zero, List.getElem?_cons_succ, nk10, nk11, if_true, eq_self, b79_39]
      · rw [if_neg (by rw [i_le, hm1]; omega), if_neg h2]
  · rw [if_neg (show ¬ (0 ≤ n.toInt ∧ n.toInt < 1000) from fun q => hn (by omega)), if_pos (show (nI 0 : Int32) = 0 from rfl), if_neg (show ¬ vN 1000 n = true by rw [vN_f hn]; decide)]
def qLeast (st : St) (x : Int32) : Int32 := if x = -nI 1 then oI (leastD st.2.1) else if vN st.2.1.1.length x = true then (match leastD st.2.1 with
  | none => -nI 9
  | some _ => nI (lnE st.2.1 x.toInt.toNat)) else -nI 1
theorem m91 {X : smX} {h : smH} {B : Nat} {st : St} (r : RepC h B st) (x : Int32) : ∃ h', sm_C PP X 91 [.ref B, .int x] h = some (some (.int (qLeast st x)), h') ∧ RepC h' B st ∧ Fr h h' B (B + 338) := by
  obtain ⟨rc, K, L, rf⟩ := id r
  have h6 := rc.2.2.1.2.1.1
  obtain ⟨h1, e1, f1, k1⟩ := m89 (X := X) (show B + 3 + 27 ≤ B + 307 by omega) (show B + 304 + 3 ≤ B + 307 by omega) rf rc.2.2.1 rc.2.2.2.2.2
  have c1 := rc.out k1 (by omega)
  have rr : RepC h1 B st ∧ Fr h h1 B (B + 338) := ⟨⟨c1, true, true, f1⟩, k1.mono (by omega) (by omega)⟩
  obtain ⟨ld, W, a, -⟩ := rf
  have hE : sm_E PP X 91 18 [(0, .ref B), (1, .int x)] [] h = sm_E PP X 91 33 [(0, .ref B), (1, .int x)] [] h1 := by
    simp only [b91_18, fO rc.1, sm_gI_s, sm_gR_s, sm_gJ_s, sm_cR_s, sm_al_s, sm_sw_s, sm_tl1, sm_tl0, sm_ap0, sm_ap1, List.getElem?_cons_zero, List.getElem?_cons_succ, nk10, nk11, if_true, eq_self, vO a.1.1, e1]
  unfold qLeast
  simp only [c91, b91_0, fO rc.1, sm_gI_s, sm_gR_s, sm_gJ_s, sm_cR_s, sm_al_s, sm_sw_s, sm_tl1, sm_tl0, sm_ap0, sm_ap1, List.getElem?_cons_zero, List.getElem?_cons_succ, nk10, nk11, if_true, eq_self, vO rc.2.2.1.1.1, m48 rc.2.2.1.1 h6, b91_13, hE, b91_33, fO c1.1]
  obtain ⟨ld1, W1, a1, b1⟩ := id f1
  by_cases hx : x = -nI 1
  · rw [if_pos hx, if_pos hx, if_pos hx]
    refine ⟨h1, ?_, rr⟩
    simp only [fO a1.1.1, sm_gI_s, sm_gR_s, sm_gJ_s, sm_cR_s, sm_al_s, sm_sw_s, sm_tl1, sm_tl0, sm_ap0, sm_ap1, List.getElem?_cons_zero, List.getElem?_cons_succ, nk10, nk11, if_true, eq_self, b91_56]
    rw [(b1 rfl).2.1]
  · rw [if_neg hx, if_neg hx, if_neg hx]
    rcases e_cs st.2.1.1.length x with ⟨e, he, h31, rfl⟩ | hv
    · simp only [vN_t he h31, if_true, nI_toInt h31, Int.toNat_natCast]
      rw [if_pos (show (0 : Int) ≤ (e : Int) ∧ (e : Int) < (st.2.1.1.length : Int) by omega), if_neg (show ¬ (nI 1 : Int32) = 0 by decide), vO a1.1.1, m90 f1 h6 he]
      simp only [sm_gI_s, sm_gR_s, sm_gJ_s, sm_cR_s, sm_al_s, sm_sw_s, sm_tl1, sm_tl0, sm_ap0, sm_ap1, List.getElem?_cons_zero, List.getElem?_cons_succ, nk10, nk11, if_true, eq_self, b91_56]
      exact ⟨h1, rfl, rr⟩
    · rw [if_neg hv, if_pos (show (nI 0 : Int32) = 0 from rfl), if_neg (by rw [vN_f hv]; decide)]
      exact ⟨h, rfl, r, Fr.rf⟩
def qSure (st : St) (x : Int32) : Int32 := if vN st.2.1.1.length x = true then oI (sur st.2.1 x.toInt.toNat) else -nI 1
theorem m98 {X : smX} {h : smH} {B : Nat} {st : St} (r : RepC h B st) (x : Int32) : ∃ h', sm_C PP X 98 [.ref B, .int x] h = some (some (.int (qSure st x)), h') ∧ RepC h' B st ∧ Fr h h' B (B + 338) := by
  have rc := r.1
  have h6 := rc.2.2.1.2.1.1
  unfold qSure
  simp only [c98, b98_0, fO rc.1, sm_gI_s, sm_gR_s, sm_gJ_s, sm_cR_s, sm_al_s, sm_sw_s, sm_tl1, sm_tl0, sm_ap0, sm_ap1, List.getElem?_cons_zero, List.getElem?_cons_succ, nk10, nk11, if_true, eq_self, vO rc.2.2.1.1.1, m48 rc.2.2.1.1 h6, b98_8]
  rcases e_cs st.2.1.1.length x with ⟨e, he, h31, rfl⟩ | hv
  · simp only [vN_t he h31, if_true, nI_toInt h31, Int.toNat_natCast]
    obtain ⟨h1, L, e1, c1, f1, k1⟩ := m68R (X := X) r
    obtain ⟨h2, e2, f2, k2⟩ := m97 (X := X) f1 rc.2.2.1.2.1 he
    obtain ⟨-, K0, L0, ld, W, a, -⟩ := r
    obtain ⟨ld1, W1, a1, -⟩ := f1
    rw [if_pos (show (0 : Int) ≤ (e : Int) ∧ (e : Int) < (st.2.1.1.length : Int) by omega), if_neg (show ¬ (nI 1 : Int32) = 0 by decide), vO a.1.1, e1]
    simp only [sm_gI_s, sm_gR_s, sm_gJ_s, sm_cR_s, sm_al_s, sm_sw_s, sm_tl1, sm_tl0, sm_ap0, sm_ap1, List.getElem?_cons_zero, List.getElem?_cons_succ, nk10, nk11, if_true, eq_self, b98_28, fO c1.1, fO c1.2.2.1.1.1, vO a1.1.1, e2, b98_50]
    exact ⟨h2, rfl, ⟨c1.out k2 (by omega), true, L, f2⟩, (k1.mono (by omega) (by omega)).s (k2.mono (by omega) (by omega))⟩
  · rw [if_neg hv, if_pos (show (nI 0 : Int32) = 0 from rfl), if_neg (by rw [vN_f hv]; decide)]
    exact ⟨h, rfl, r, Fr.rf⟩
def qLook (st : St) (x : Int32) : Int32 := if vN st.2.1.1.length x = true then (if 1 < (agE st.2.1 x.toInt.toNat).1.length then oI (bpl (en st.2.1 x.toInt.toNat).1 (agE st.2.1 x.toInt.toNat).1 (en st.2.1 x.toInt.toNat).1.length 0 none 0) else -nI 9) else -nI 1
theorem m101 {X : smX} {h : smH} {B : Nat} {st : St} (r : RepC h B st) (x : Int32) : ∃ h', sm_C PP X 101 [.ref B, .int x] h = some (some (.int (qLook st x)), h') ∧ RepC h' B st ∧ Fr h h' B (B + 338) := by
  have rc := r.1
  have h6 := rc.2.2.1.2.1.1
  unfold qLook
  rcases e_cs st.2.1.1.length x with ⟨e, he, h31, rfl⟩ | hv
  · simp only [vN_t he h31, if_true, nI_toInt h31, Int.toNat_natCast]
    obtain ⟨h1, L, e1, c1, f1, a1, k1⟩ := m70 (X := X) r he
    have hl := a1.2.1
    have hw := c1.2.2.1.row (f := 0) he
    obtain ⟨h2, e2, f2, k2⟩ := m100 (X := X) f1 h6 he c1.2.2.2.2.2 (show B + 304 + 3 ≤ B + 307 + 12 by omega) hw (show adr (B + 3) e 0 + 2 ≤ B + 307 by unfold adr; rw [if_pos rfl]; omega)
    obtain ⟨ld1, W1, b1, -⟩ := id f1
    simp only [c101, b101_0, fO rc.1, sm_gI_s, sm_gR_s, sm_gJ_s, sm_cR_s, sm_al_s, sm_sw_s, sm_tl1, sm_tl0, sm_ap0, sm_ap1, List.getElem?_cons_zero, List.getElem?_cons_succ, nk10, nk11, if_true, eq_self, vO rc.2.2.1.1.1, m51k rc.2.2.1 he (show 0 < 2 by omega), b101_9, vO rc.1, e1, b101_21, fO a1.1, fO c1.1, vO b1.1.1, b101_48]
    rw [show B + 320 + 3 * e = B + 307 + 13 + 3 * e by omega, e2]
    simp only [sm_gI_s, sm_gR_s, sm_gJ_s, sm_cR_s, sm_al_s, sm_sw_s, sm_tl1, sm_tl0, sm_ap0, sm_ap1, List.getElem?_cons_zero, List.getElem?_cons_succ, nk10, nk11, if_true, eq_self, b101_48]
    by_cases h0 : 1 < (agE st.2.1 e).1.length
    · rw [if_pos (nI_lt h0 (by omega)), if_pos h0]
      exact ⟨h2, rfl, ⟨c1.out k2 (by omega), true, L, f2⟩, (k1.mono (by omega) (by omega)).s (k2.mono (by omega) (by omega))⟩
    · rw [if_neg (nI_nlt (by omega) (by omega)), if_neg h0]
      exact ⟨h1, rfl, ⟨c1, true, L, f1⟩, k1.mono (by omega) (by omega)⟩
  · rw [if_neg (by rw [vN_f hv]; decide)]
    have hv2 : ¬ (0 ≤ x.toInt ∧ x.toInt < st.2.1.1.length ∧ 0 ≤ (nI 0).toInt ∧ (nI 0).toInt ≤ 1) := fun q => hv ⟨q.1, q.2.1⟩
    simp only [c101, b101_0, fO rc.1, sm_gI_s, sm_gR_s, sm_gJ_s, sm_cR_s, sm_al_s, sm_sw_s, sm_tl1, sm_tl0, sm_ap0, sm_ap1, List.getElem?_cons_zero, List.getElem?_cons_succ, nk10, nk11, if_true, eq_self, vO rc.2.2.1.1.1, m51n rc.2.2.1.1 h6 hv2, b101_9_1]
    exact ⟨h, rfl, r, Fr.rf⟩
