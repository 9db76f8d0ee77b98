/-! the law's entries(o) -/
theorem ag_lt {s : Sh} {e k : Nat} (hk : k < (agE s e).1.length) : pN (agE s e).1 k < 1000 := by
  obtain ⟨a, b, h1, h2, h3, h4, h5⟩ := agl_mem 1000 0 k hk
  exact Nat.lt_of_lt_of_le h5 (by omega)
theorem wornE_le {h : smH} {B e : Nat} {σ : St} (r : RepC h B σ) (he : e < σ.2.1.1.length) : wornE (en σ.2.1 e) ≤ 62 := by
  have a := (r.row (f := 0) he).1
  have b := (r.row (f := 1) he).1
  have c : (en σ.2.1 e).1.count 63 ≤ (en σ.2.1 e).1.length := List.count_le_length
  have d : (en σ.2.1 e).2.count 63 ≤ (en σ.2.1 e).2.length := List.count_le_length
  have a' : (en σ.2.1 e).1.length ≤ 31 := a
  have b' : (en σ.2.1 e).2.length ≤ 31 := b
  unfold wornE
  omega
section W110
variable {X : smX} {B : Nat} {σ : St} {h0 : smH} {Q : Option Value → St → Prop}
/-- what the loop holds of the one before -/
def wInv (l : List (Nat × Nat)) (k : Nat) (x y : Int32) : Prop := (k = 0 ∧ x = -nI 1 ∧ y = -nI 1) ∨ ∃ q, k = q + 1 ∧ x = nI (pD l (rk l q)) ∧ y = nI (pN l (rk l q))
theorem m1_lt {n : Nat} (h : n < 2 ^ 31) : -nI 1 < nI n := by
  rw [i_lt, nI_neg (by omega), nI_toInt h]
  omega
theorem w110_32 {e : Nat} {x1 x2 : Int32} (he : e < σ.2.1.1.length) : ∀ (d k : Nat) (x y : Int32) (h : smH), k + d = (agE σ.2.1 e).1.length → wInv (agE σ.2.1 e).1 k x y → RepC h B σ → Fr h0 h B (B + 338) → (∀ h x y, RepC h B σ → Fr h0 h B (B + 338) → G B h0 Q (sm_E PP X 110 32 [(0, .ref B), (1, .int x1), (2, .int x2), (3, .int (nI e)), (4, .int (nI (agE σ.2.1 e).1.length)), (5, .int x), (6, .int y), (7, .int (nI (agE σ.2.1 e).1.length))] [] h)) → G B h0 Q (sm_E PP X 110 32 [(0, .ref B), (1, .int x1), (2, .int x2), (3, .int (nI e)), (4, .int (nI (agE σ.2.1 e).1.length)), (5, .int x), (6, .int y), (7, .int (nI k))] [] h) := by
  intro d
  induction d with
  | zero =>
    intro k x y h hd hi r f K
    obtain rfl : k = (agE σ.2.1 e).1.length := by omega
    exact K h x y r f
  | succ d ih =>
    intro k x y h hd hi r f K
    have hl := ag_len (s := σ.2.1) (e := e)
    obtain ⟨-, q1, q2⟩ := rk_ok (l := (agE σ.2.1 e).1) (k := k) (by omega)
    obtain ⟨p1, p2⟩ := r.ok e he _ q1
    rw [b110_32, if_neg (nI_ge (by omega) (by omega))]
    refine G.v (k78_0 r he (by omega)) r f fun h r f => ?_
    rw [b110_47]
    refine G.v (k78_1 r he (by omega)) r f fun h r f => ?_
    rw [b110_57]
    have hn : wInv (agE σ.2.1 e).1 (k + 1) (nI (pD (agE σ.2.1 e).1 (rk (agE σ.2.1 e).1 k))) (nI (pN (agE σ.2.1 e).1 (rk (agE σ.2.1 e).1 k))) := Or.inr ⟨k, rfl, rfl, rfl⟩
    have hgo : ∀ R : smR, (if x < nI (pD (agE σ.2.1 e).1 (rk (agE σ.2.1 e).1 k)) then sm_E PP X 110 80 [(0, .ref B), (1, .int x1), (2, .int x2), (3, .int (nI e)), (4, .int (nI (agE σ.2.1 e).1.length)), (7, .int (nI k)), (8, .int (nI (pN (agE σ.2.1 e).1 (rk (agE σ.2.1 e).1 k)))), (9, .int (nI (pD (agE σ.2.1 e).1 (rk (agE σ.2.1 e).1 k))))] [] h else if nI (pD (agE σ.2.1 e).1 (rk (agE σ.2.1 e).1 k)) = x then (if nI (pN (agE σ.2.1 e).1 (rk (agE σ.2.1 e).1 k)) ≤ y then R else sm_E PP X 110 80 [(0, .ref B), (1, .int x1), (2, .int x2), (3, .int (nI e)), (4, .int (nI (agE σ.2.1 e).1.length)), (7, .int (nI k)), (8, .int (nI (pN (agE σ.2.1 e).1 (rk (agE σ.2.1 e).1 k)))), (9, .int (nI (pD (agE σ.2.1 e).1 (rk (agE σ.2.1 e).1 k))))] [] h) else R) = sm_E PP X 110 80 [(0, .ref B), (1, .int x1), (2, .int x2), (3, .int (nI e)), (4, .int (nI (agE σ.2.1 e).1.length)), (7, .int (nI k)), (8, .int (nI (pN (agE σ.2.1 e).1 (rk (agE σ.2.1 e).1 k)))), (9, .int (nI (pD (agE σ.2.1 e).1 (rk (agE σ.2.1 e).1 k))))] [] h := by
      intro R
      rcases hi with ⟨-, rfl, rfl⟩ | ⟨q, rfl, rfl, rfl⟩
      · rw [if_pos (m1_lt (by omega))]
      · obtain ⟨-, z1, z2⟩ := rk_ok (l := (agE σ.2.1 e).1) (k := q) (by omega)
        obtain ⟨w1, w2⟩ := r.ok e he _ z1
        rcases rk_up (l := (agE σ.2.1 e).1) (k := q) (by omega) with u | ⟨u, v⟩
        · rw [if_pos (nI_lt u (by omega))]
        · have v2 := ag_up v q1
          rw [u, if_neg (nI_nlt (Nat.le_refl _) (by omega)), if_pos rfl, if_neg (nI_ge v2 (by omega))]
    rw [hgo, b110_80, b110_85, if_neg (by decide), if_neg (nI_pos (by omega)), if_neg (nI_nlt (by omega) (by omega))]
    have fin : ∀ h, RepC h B σ → Fr h0 h B (B + 338) → G B h0 Q (sm_E PP X 110 136 [(0, .ref B), (1, .int x1), (2, .int x2), (3, .int (nI e)), (4, .int (nI (agE σ.2.1 e).1.length)), (7, .int (nI k)), (8, .int (nI (pN (agE σ.2.1 e).1 (rk (agE σ.2.1 e).1 k)))), (9, .int (nI (pD (agE σ.2.1 e).1 (rk (agE σ.2.1 e).1 k))))] [] h) := fun h r f => by
      rw [b110_136, nI_add]
      exact ih (k + 1) _ _ h (by omega) hn r f K
    by_cases c12 : 12 ≤ k
    · rw [if_pos (nI_le c12 (by omega))]
      exact fin h r f
    · rw [if_neg (nI_ge (by omega) (by omega))]
      obtain ⟨a, b, d1, d2, d3⟩ := ag_mem q1
      refine G.v (k73_w r he p1) r f fun h r f => ?_
      rw [b110_122]
      refine G.v (k73_f r he p1) r f fun h r f => ?_
      rw [b110_130, d1, d2, oIs, oIs, nI_add, ← d3, if_pos rfl]
      exact fin h r f
theorem w110_6 : ∀ (d e a w : Nat) (h : smH), e + d = σ.2.1.1.length → a ≤ e → w ≤ 62 * e → alt σ.2.1 d e a = alt σ.2.1 σ.2.1.1.length 0 0 → wornA σ.2.1 d e w = wornA σ.2.1 σ.2.1.1.length 0 0 → RepC h B σ → Fr h0 h B (B + 338) → Q (some (.int (nI 1))) σ → G B h0 Q (sm_E PP X 110 6 [(0, .ref B), (1, .int (nI a)), (2, .int (nI w)), (3, .int (nI e))] [] h) := by
  intro d
  induction d with
  | zero =>
    intro e a w h hd la lw ha hw r f K
    have h6 := r.h6
    rw [b110_6]
    refine G.v (k105_0 r) r f fun h r f => ?_
    rw [b110_12, if_pos (nI_le (by omega) (by omega))]
    refine G.v (k105_1 r) r f fun h r f => ?_
    rw [b110_253, ← ha]
    show G B h0 Q (if nI a = nI a then _ else _)
    rw [if_pos rfl]
    refine G.v (k105_4 r) r f fun h r f => ?_
    rw [b110_262, ← hw]
    show G B h0 Q (if nI w = nI w then _ else _)
    rw [if_pos rfl, b110_271]
    exact G.b r f K
  | succ d ih =>
    intro e a w h hd la lw ha hw r f K
    have h6 := r.h6
    have he : e < σ.2.1.1.length := by omega
    have hl := ag_len (s := σ.2.1) (e := e)
    have hlw := ag_w (s := σ.2.1) (e := e)
    have hlf := ag_f (s := σ.2.1) (e := e)
    have hW := wornE_le r he
    rw [b110_6]
    refine G.v (k105_0 r) r f fun h r f => ?_
    rw [b110_12, if_neg (nI_ge (by omega) (by omega))]
    refine G.v (k71_5 r he) r f fun h r f => ?_
    rw [b110_21]
    refine w110_32 he (agE σ.2.1 e).1.length 0 _ _ h (by omega) (Or.inl ⟨rfl, rfl, rfl⟩) r f fun h x y r f => ?_
    rw [b110_32, if_pos (nI_le (Nat.le_refl _) (by omega))]
    refine G.v (k101 r he) r f fun h r f => ?_
    rw [b110_155]
    refine G.v (k78_n r he) r f fun h r f => ?_
    rw [b110_165, if_pos rfl]
    refine G.v (k71_3 r he) r f fun h r f => ?_
    have hcw : (agE σ.2.1 e).1.length ≤ (agE σ.2.1 e).2.1 := agl_cntW 1000 0
    have hcf : (agE σ.2.1 e).1.length ≤ (agE σ.2.1 e).2.2 := agl_cntF 1000 0
    rw [b110_178, if_neg (nI_nlt hcw (by omega))]
    refine G.v (k71_4 r he) r f fun h r f => ?_
    rw [b110_189, if_neg (nI_nlt hcf (by omega))]
    have fin : ∀ h, RepC h B σ → Fr h0 h B (B + 338) → G B h0 Q (sm_E PP X 110 220 [(0, .ref B), (1, .int (nI a)), (2, .int (nI w)), (3, .int (nI e)), (4, .int (nI (agE σ.2.1 e).1.length))] [] h) := fun h r f => by
      rw [b110_220]
      have hw' : wornA σ.2.1 d (e + 1) (w + wornE (en σ.2.1 e)) = wornA σ.2.1 σ.2.1.1.length 0 0 := hw
      by_cases c0 : (agE σ.2.1 e).1.length = 0
      · rw [c0, if_pos (by decide), b110_231]
        refine G.v (k71_2 r he) r f fun h r f => ?_
        have ha' : alt σ.2.1 d (e + 1) (a + 1) = alt σ.2.1 σ.2.1.1.length 0 0 := by
          rw [← ha]
          show _ = if (agE σ.2.1 e).1.length = 0 then _ else _
          rw [if_pos c0]
        rw [b110_240, nI_add, nI_add, nI_add]
        exact ih (e + 1) (a + 1) _ h (by omega) (by omega) (by omega) ha' hw' r f K
      · rw [if_neg (nI_ne0 (by omega) (by omega)), b110_231]
        refine G.v (k71_2 r he) r f fun h r f => ?_
        have ha' : alt σ.2.1 d (e + 1) a = alt σ.2.1 σ.2.1.1.length 0 0 := by
          rw [← ha]
          show _ = if (agE σ.2.1 e).1.length = 0 then _ else _
          rw [if_neg c0]
        rw [b110_240, nI_add, nI_add, nI_add]
        exact ih (e + 1) a _ h (by omega) (by omega) (by omega) ha' hw' r f K
    by_cases c1 : 1 < (agE σ.2.1 e).1.length
    · rw [if_pos c1]
      cases hb : bpl (en σ.2.1 e).1 (agE σ.2.1 e).1 (en σ.2.1 e).1.length 0 none 0 with
      | none =>
        rw [oIn, if_pos rfl]
        exact fin h r f
      | some p =>
        obtain q | ⟨-, q1, q2⟩ := bpl_ok _ _ _ _ hb
        · cases q
        · have hr : (rowF σ.2.1 e 0).length ≤ 31 := (r.row he).1
          have hp : p < (rowF σ.2.1 e 0).length := by rw [Nat.zero_add] at q1; exact q1
          rw [oIs, if_neg (neg9_ne (show p < 2 ^ 30 by omega)), if_neg (nI_nlt (by omega) (by omega))]
          refine G.v (k72 r he (by omega) hp) r f fun h r f => ?_
          rw [b110_213, show nA (rowF σ.2.1 e 0) p = 63 from q2, if_pos rfl]
          exact fin h r f
    · rw [if_neg c1, if_pos rfl]
      exact fin h r f
end W110
theorem m110 {X : smX} {h : smH} {B : Nat} {σ : St} (r : RepC h B σ) : Ct X 110 [.ref B] h B (.int (nI 1)) σ := by
  refine G.ct ?_
  rw [c110, b110_0]
  exact w110_6 _ 0 0 0 h (by omega) (by omega) (by omega) rfl rfl r Fr.rf ⟨rfl, rfl⟩
