/-! ranked of the reference -/
theorem m138_in {X : smX} {h : smH} {M d0 l0 q0 e kk fl0 i : Nat} {s : Sh} {f g c : Nat → Int32} (a0 : MObj h M d0 l0 q0) (i7 : IA h (M + 7) 6000 f) (i8 : IA h (M + 8) 6000 g) (i9 : IA h (M + 9) 6 c) (he : e < 6) (hc : c e = nI (agE s e).1.length) (hL : ∀ k, k < (agE s e).1.length → f (1000 * e + k) = nI (pN (agE s e).1 k) ∧ g (1000 * e + k) = nI (pD (agE s e).1 k)) (hb : ∀ k, k < (agE s e).1.length → pD (agE s e).1 k < 100) (hlen : (agE s e).1.length ≤ 1000) (hi : i < (agE s e).1.length) (hk : kk < 2 ^ 31) (hf : fl0 < 2) : ∀ (d j a : Nat), j + d = (agE s e).1.length → a ≤ j → sm_E PP X 138 60 [(0, .ref M), (1, .int (nI e)), (2, .int (nI kk)), (3, .int (nI fl0)), (4, .int (nI (1000 * e))), (5, .int (nI (1000 * e + i))), (6, .int (nI a)), (7, .int (nI (1000 * e + j)))] [] h = if ahd (agE s e).1 i d j a = kk then some (some (.int (if fl0 = 0 then nI (pN (agE s e).1 i) else nI (pD (agE s e).1 i))), h) else sm_E PP X 138 39 [(0, .ref M), (1, .int (nI e)), (2, .int (nI kk)), (3, .int (nI fl0)), (4, .int (nI (1000 * e))), (5, .int (nI (1000 * e + (i + 1))))] [] h := by
  intro d
  have ld9 : ∀ κ : Int32 → smR, sm_ld (sm_ar PP X h (.ref (M + 9))) .int (nI e) κ = κ (nI (agE s e).1.length) := fun κ => by rw [aO i9, ldO he (by omega), hc]
  have ld7 : ∀ (k : Nat) (κ : Int32 → smR), k < (agE s e).1.length → sm_ld (sm_ar PP X h (.ref (M + 7))) .int (nI (1000 * e + k)) κ = κ (nI (pN (agE s e).1 k)) := fun k κ q => by rw [aO i7, ldO (by omega) (by omega), (hL k q).1]
  have ld8 : ∀ (k : Nat) (κ : Int32 → smR), k < (agE s e).1.length → sm_ld (sm_ar PP X h (.ref (M + 8))) .int (nI (1000 * e + k)) κ = κ (nI (pD (agE s e).1 k)) := fun k κ q => by rw [aO i8, ldO (by omega) (by omega), (hL k q).2]
  induction d with
  | zero =>
    intro j a hj ha
    rw [b138_60]
    simp only [fO a0, sm_gI_s, sm_gR_s, sm_gJ_s, sm_cR_s, sm_al_s, sm_sw_s, sm_tl1, sm_tl0, sm_ap0, sm_ap1, List.getElem?_cons_zero, List.getElem?_cons_succ, nk10, nk11, if_true, eq_self, ld9, nI_add]
    rw [if_pos (nI_le (by omega) (by omega))]
    unfold ahd
    by_cases h1 : a = kk
    · rw [if_pos (by rw [h1]), if_pos h1]
      by_cases h2 : fl0 = 0
      · subst h2
        rw [if_pos (show (nI 0 : Int32) = 0 from rfl), ld7 i _ hi, b138_158, if_pos rfl]
      · obtain rfl : fl0 = 1 := by omega
        rw [if_neg (show ¬ (nI 1 : Int32) = 0 by decide), ld8 i _ hi, b138_158, if_neg h2]
    · rw [if_neg (fun q => h1 ((nI_eq (by omega) hk).mp q)), if_neg h1, Nat.add_assoc]
  | succ d ih =>
    intro j a hj ha
    have hj2 : j < (agE s e).1.length := by omega
    have hD := hb j hj2
    have hDi := hb i hi
    rw [b138_60]
    simp only [fO a0, sm_gI_s, sm_gR_s, sm_gJ_s, sm_cR_s, sm_al_s, sm_sw_s, sm_tl1, sm_tl0, sm_ap0, sm_ap1, List.getElem?_cons_zero, List.getElem?_cons_succ, nk10, nk11, if_true, eq_self, ld9, nI_add]
    rw [if_neg (nI_ge (by omega) (by omega))]
    rw [ld8 j _ hj2, ld8 i _ hi, ld8 j _ hj2, ld8 i _ hi]
    simp only [nI_ltI (show pD (agE s e).1 j < 2 ^ 31 by omega) (show pD (agE s e).1 i < 2 ^ 31 by omega), nI_eq (show pD (agE s e).1 j < 2 ^ 31 by omega) (show pD (agE s e).1 i < 2 ^ 31 by omega), nI_leI (show 1000 * e + i < 2 ^ 31 by omega) (show 1000 * e + j < 2 ^ 31 by omega)]
    unfold ahd
    by_cases h1 : pD (agE s e).1 j < pD (agE s e).1 i
    · rw [if_pos h1, if_pos (Or.inl h1)]
      rw [b138_117, b138_122, nI_add, nI_add, Nat.add_assoc (1000 * e) j 1]
      exact ih (j + 1) (a + 1) (by omega) (by omega)
    · rw [if_neg h1]
      by_cases h2 : pD (agE s e).1 j = pD (agE s e).1 i
      · rw [if_pos h2]
        by_cases h3 : i ≤ j
        · rw [if_pos (show 1000 * e + i ≤ 1000 * e + j by omega), if_neg (show ¬ (pD (agE s e).1 j < pD (agE s e).1 i ∨ (pD (agE s e).1 j = pD (agE s e).1 i ∧ j < i)) by omega)]
          rw [b138_121, b138_122, nI_add, nI_add, Nat.add_assoc (1000 * e) j 1]
          exact ih (j + 1) (a + 0) (by omega) (by omega)
        · rw [if_neg (show ¬ 1000 * e + i ≤ 1000 * e + j by omega), if_pos (show (pD (agE s e).1 j < pD (agE s e).1 i ∨ (pD (agE s e).1 j = pD (agE s e).1 i ∧ j < i)) by omega)]
          rw [b138_117, b138_122, nI_add, nI_add, Nat.add_assoc (1000 * e) j 1]
          exact ih (j + 1) (a + 1) (by omega) (by omega)
      · rw [if_neg h2, if_neg (show ¬ (pD (agE s e).1 j < pD (agE s e).1 i ∨ (pD (agE s e).1 j = pD (agE s e).1 i ∧ j < i)) by omega)]
        rw [b138_121, b138_122, nI_add, nI_add, Nat.add_assoc (1000 * e) j 1]
        exact ih (j + 1) (a + 0) (by omega) (by omega)
def rkV (l : List (Nat × Nat)) (f : Nat) (o : Option Nat) : Int32 := match o with
  | none => -nI 9
  | some i => if f = 0 then nI (pN l i) else nI (pD l i)
theorem m138_out {X : smX} {h : smH} {M d0 l0 q0 e kk fl0 : Nat} {s : Sh} {f g c : Nat → Int32} (a0 : MObj h M d0 l0 q0) (i7 : IA h (M + 7) 6000 f) (i8 : IA h (M + 8) 6000 g) (i9 : IA h (M + 9) 6 c) (he : e < 6) (hc : c e = nI (agE s e).1.length) (hL : ∀ k, k < (agE s e).1.length → f (1000 * e + k) = nI (pN (agE s e).1 k) ∧ g (1000 * e + k) = nI (pD (agE s e).1 k)) (hb : ∀ k, k < (agE s e).1.length → pD (agE s e).1 k < 100) (hlen : (agE s e).1.length ≤ 1000) (hk : kk < 2 ^ 31) (hf : fl0 < 2) : ∀ (d i : Nat), i + d = (agE s e).1.length → sm_E PP X 138 39 [(0, .ref M), (1, .int (nI e)), (2, .int (nI kk)), (3, .int (nI fl0)), (4, .int (nI (1000 * e))), (5, .int (nI (1000 * e + i)))] [] h = some (some (.int (rkV (agE s e).1 fl0 (ixR (agE s e).1 kk d i))), h) := by
  intro d
  have ld9 : ∀ κ : Int32 → smR, sm_ld (sm_ar PP X h (.ref (M + 9))) .int (nI e) κ = κ (nI (agE s e).1.length) := fun κ => by rw [aO i9, ldO he (by omega), hc]
  induction d with
  | zero =>
    intro i hi
    rw [b138_39]
    simp only [fO a0, sm_gI_s, sm_gR_s, sm_gJ_s, sm_cR_s, sm_al_s, sm_sw_s, sm_tl1, sm_tl0, sm_ap0, sm_ap1, List.getElem?_cons_zero, List.getElem?_cons_succ, nk10, nk11, if_true, eq_self, ld9, nI_add]
    rw [if_pos (nI_le (by omega) (by omega))]
    rfl
  | succ d ih =>
    intro i hi
    have hin := m138_in (X := X) (kk := kk) (fl0 := fl0) a0 i7 i8 i9 he hc hL hb hlen (show i < (agE s e).1.length by omega) hk hf (agE s e).1.length 0 0 (by omega) (Nat.le_refl _)
    rw [Nat.add_zero] at hin
    rw [b138_39]
    simp only [fO a0, sm_gI_s, sm_gR_s, sm_gJ_s, sm_cR_s, sm_al_s, sm_sw_s, sm_tl1, sm_tl0, sm_ap0, sm_ap1, List.getElem?_cons_zero, List.getElem?_cons_succ, nk10, nk11, if_true, eq_self, ld9, nI_add]
    rw [if_neg (nI_ge (by omega) (by omega)), hin]
    unfold ixR
    by_cases h1 : ahd (agE s e).1 i (agE s e).1.length 0 0 = kk
    · rw [if_pos h1, if_pos h1]; rfl
    · rw [if_neg h1, if_neg h1]
      exact ih (i + 1) (by omega)
theorem m138 {X : smX} {h : smH} {M : Nat} {st : St} (r : RepM h M st) (x k y : Int32) : ∃ h', sm_C PP X 138 [.ref M, .int x, .int k, .int y] h = some (some (.int (qRanked st x k y)), h') ∧ RepM h' M st ∧ Fr h h' M (M + 16) := by
  obtain ⟨⟨q, a⟩, -, ⟨f, c1, c2⟩, -⟩ := id r
  have h6 := c2.2.2.2.1.1
  have nt : ¬ (true = false) := by decide
  have nt2 : ¬ (false = true) := by decide
  rw [c138, b138_0, vO a, m116 r]
  simp only [sm_gI_s, sm_gR_s, sm_gJ_s, sm_cR_s, sm_al_s, sm_sw_s, sm_tl1, sm_tl0, sm_ap0, sm_ap1, List.getElem?_cons_zero, List.getElem?_cons_succ, nk10, nk11, if_true, eq_self, b138_5, bI_0]
  cases ev : vN st.2.1.1.length x with
  | false =>
    have hz : vR st.2.1 x y = false := by
      cases hv : vR st.2.1 x y with
      | false => rfl
      | true =>
        have := of_decide_eq_true hv
        have e2 : vN st.2.1.1.length x = true := decide_eq_true ⟨this.1, this.2.1⟩
        rw [ev] at e2
        cases e2
    unfold qRanked
    rw [if_pos rfl, b138_21, hz, if_neg nt2]
    exact ⟨h, rfl, r, Fr.rf⟩
  | true =>
    unfold qRanked
    rw [if_neg nt, vR_x ev]
    rcases i_cases k with hk | ⟨j, hj, rfl⟩
    · rw [if_pos (show k < 0 by rw [i_lt, i_0]; exact hk), b138_21]
      refine ⟨h, ?_, r, Fr.rf⟩
      rw [if_neg (show ¬ 0 ≤ k.toInt by omega)]
      split <;> rfl
    · rw [if_neg (nI_pos hj), m107, dIn (by omega)]
      simp only [sm_gI_s, sm_gR_s, sm_gJ_s, sm_cR_s, sm_al_s, sm_sw_s, sm_tl1, sm_tl0, sm_ap0, sm_ap1, List.getElem?_cons_zero, List.getElem?_cons_succ, nk10, nk11, if_true, eq_self, b138_18, bI_0]
      cases ey : vN (1 + 1) y with
      | false =>
        have ey1 : vN 2 y = false := ey
        rw [if_pos rfl, b138_21, if_neg nt2]
        exact ⟨h, rfl, r, Fr.rf⟩
      | true =>
        have ey1 : vN 2 y = true := ey
        rw [if_neg nt, if_pos rfl, if_pos (show 0 ≤ (nI j).toInt by rw [nI_toInt hj]; omega)]
        rcases e_cs st.2.1.1.length x with ⟨e, he, h31, rfl⟩ | hv
        · rcases e_cs 2 y with ⟨w, hw, hw31, rfl⟩ | hv
          · rw [nTN h31, nTN hj, nTN hw31, vO a]
            obtain ⟨h1, e1, r1, ⟨g1, g2, g3, y1, y2, y3, y4⟩, k1⟩ := m134 (X := X) r r.ag he
            obtain ⟨⟨q1, a1⟩, -⟩ := id r1
            obtain ⟨z1, z2⟩ := y4 e he uP_eq
            have hl : (agE st.2.1 e).1.length ≤ 1000 := agl_len 1000 0
            have ho := m138_out (X := X) a1 y1 y2 y3 (show e < 6 by omega) z1 z2 (fun k hk => (r.ok e he k hk).2) hl hj hw (agE st.2.1 e).1.length 0 (by omega)
            rw [Nat.add_zero] at ho
            refine ⟨h1, ?_, r1, k1⟩
            rw [e1]
            simp only [sm_gI_s, sm_gR_s, sm_gJ_s, sm_cR_s, sm_al_s, sm_sw_s, sm_tl1, sm_tl0, sm_ap0, sm_ap1, List.getElem?_cons_zero, List.getElem?_cons_succ, nk10, nk11, if_true, eq_self, b138_28, pk_mul, ho]
            rfl
          · rw [vN_f hv] at ey1; cases ey1
        · rw [vN_f hv] at ev; cases ev
