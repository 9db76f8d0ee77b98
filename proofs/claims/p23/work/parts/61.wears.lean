/-! the law's wears(o, x) -/
theorem okC_s {c : Nat} (h : okC c) (h1 : ¬ (c = 63 ∨ c = 32)) : 97 ≤ c ∧ c ≤ 122 := by unfold okC at h; omega
theorem okD_s {c : Nat} (h : okD c) (h1 : ¬ (c = 63 ∨ c = 32)) : 48 ≤ c ∧ c ≤ 57 := by unfold okD at h; omega
section W115
variable {X : smX} {B : Nat} {σ : St} {h0 : smH} {Q : Option Value → St → Prop}
/-- the second half: SLACK -/
theorem w115_246 {e : Nat} {h : smH} (he : e < σ.2.1.1.length) (r : RepC h B σ) (f : Fr h0 h B (B + 338)) (K : Q (some (.int (nI 1))) σ) : G B h0 Q (sm_E PP X 115 246 [(0, .ref B), (3, .int (nI e)), (6, .long (dg σ.2.1)), (10, .int (nI (agE σ.2.1 e).1.length))] [] h) := by
  rw [b115_246]
  refine G.s (m109 r) f fun h r f => ?_
  rw [b115_250, if_pos (cmp_eq _)]
  refine G.v (k71_5 r he) r f fun h r f => ?_
  rw [b115_262, if_pos rfl, b115_272]
  exact G.b r f K
theorem chg_undo {σ : St} {s : Sh} (h : σ.2.2.1 = []) : (opUndo (chg σ s)) = (nI 0, σ) := by
  obtain ⟨a, b, c, d⟩ := σ
  cases h
  rfl
theorem k60_0 {h : smH} {s : Sh} (r : RepC h B (chg σ s)) (hh : σ.2.2.1 = []) : Ct X 60 [.ref B] h B (.int (nI 0)) σ := by
  have c := m60 (X := X) r
  rw [chg_undo hh] at c
  exact c
theorem w115_189 {e : Nat} {h : smH} (hh : σ.2.2.1 = []) (he : e < σ.2.1.1.length) (r : RepC h B σ) (f : Fr h0 h B (B + 338)) (K : Q (some (.int (nI 1))) σ) : G B h0 Q (sm_E PP X 115 189 [(0, .ref B), (3, .int (nI e)), (6, .long (dg σ.2.1)), (8, .int (nI (agE σ.2.1 e).2.1)), (10, .int (nI (agE σ.2.1 e).1.length))] [] h) := by
  have hb := r.sb.2.1
  rw [b115_189]
  refine G.v (k105_2 r) r f fun h r f => ?_
  rw [b115_194]
  by_cases c2 : 2 ≤ σ.2.1.2.1
  · rw [if_pos (nI_le c2 (by omega))]
    exact w115_246 he r f K
  · rw [if_neg (nI_ge (by omega) (by omega)), nI_add]
    have c57 : Ct X 57 [.ref B, .int (nI (σ.2.1.2.1 + 1))] h B (.int (nI σ.2.1.2.1)) (chg σ (σ.2.1.1, σ.2.1.2.1 + 1, σ.2.1.2.2)) := by
      have c := m57 (X := X) r (nI (σ.2.1.2.1 + 1))
      unfold opSlacks at c
      rw [if_pos (by rw [nI_toInt (by omega)]; omega), nTN (by omega), if_neg (by omega)] at c
      exact c
    refine G.v c57 r f fun h r f => ?_
    have he2 : e < (chg σ (σ.2.1.1, σ.2.1.2.1 + 1, σ.2.1.2.2)).2.1.1.length := he
    have g0 := ag_slack (s := σ.2.1) (e := e)
    have g1 : (agE σ.2.1 e).1.length ≤ (agE (chg σ (σ.2.1.1, σ.2.1.2.1 + 1, σ.2.1.2.2)).2.1 e).1.length := g0.1
    have g2 : (agE σ.2.1 e).2.1 ≤ (agE (chg σ (σ.2.1.1, σ.2.1.2.1 + 1, σ.2.1.2.2)).2.1 e).2.1 := g0.2
    have l1 := ag_len (s := (chg σ (σ.2.1.1, σ.2.1.2.1 + 1, σ.2.1.2.2)).2.1) (e := e)
    have l2 := ag_w (s := (chg σ (σ.2.1.1, σ.2.1.2.1 + 1, σ.2.1.2.2)).2.1) (e := e)
    rw [b115_210, if_pos rfl]
    refine G.v (k71_3 r he2) r f fun h r f => ?_
    rw [b115_221, if_neg (nI_nlt g2 (Nat.lt_of_le_of_lt l2 (by omega)))]
    refine G.v (k71_5 r he2) r f fun h r f => ?_
    rw [b115_232, if_neg (nI_nlt g1 (Nat.lt_of_le_of_lt l1 (by omega)))]
    refine G.v (k60_0 r hh) r f fun h r f => ?_
    rw [b115_241, if_pos (show (0 : Int32) ≤ nI 0 by decide)]
    exact w115_246 he r f K
theorem w115_79 {e p q : Nat} {h : smH} (hh : σ.2.2.1 = []) (hw : WS σ.2.1) (he : e < σ.2.1.1.length) (hp : p < 2) (hq : q < (rowF σ.2.1 e p).length) (r : RepC h B σ) (f : Fr h0 h B (B + 338)) (K : Q (some (.int (nI 1))) σ) : G B h0 Q (sm_E PP X 115 68 [(0, .ref B), (3, .int (nI e)), (4, .int (nI p)), (5, .int (nI q)), (6, .long (dg σ.2.1)), (8, .int (nI (agE σ.2.1 e).2.1)), (9, .int (nI (agE σ.2.1 e).2.2))] [.int (nI (agE σ.2.1 e).1.length)] h) := by
  have h6 := r.h6
  have hl := (r.row (f := p) he).1
  have hc := (r.row (f := p) he).2 q
  have c52 := m52 (X := X) r (nI e) (nI p) (nI q)
  unfold opWears at c52
  rw [vR_t2 h6 he hp, if_pos rfl, nTN (by omega), nTN (by omega), vP_t hq (by omega), if_pos rfl, nTN (by omega)] at c52
  rw [b115_68]
  by_cases cs : nA (rowF σ.2.1 e p) q = 63 ∨ nA (rowF σ.2.1 e p) q = 32
  · rw [if_pos cs] at c52
    refine G.v (v := .int (-nI 2)) c52 r f fun h r f => ?_
    rw [b115_79, if_pos (show (-nI 2 : Int32) ≤ 0 by decide)]
    exact w115_189 hh he r f K
  · rw [if_neg cs] at c52
    refine G.v (v := .int (nI (nA (rowF σ.2.1 e p) q))) (σ' := chg σ (setR σ.2.1 e p q 63)) c52 r f fun h r f => ?_
    have hs : (p = 0 ∧ 97 ≤ nA (rowF σ.2.1 e p) q ∧ nA (rowF σ.2.1 e p) q ≤ 122) ∨ (p ≠ 0 ∧ 48 ≤ nA (rowF σ.2.1 e p) q ∧ nA (rowF σ.2.1 e p) q ≤ 57) := by
      obtain ⟨-, -, w1, w2⟩ := hw e he
      unfold rowF at cs hq ⊢
      by_cases z : p = 0
      · rw [if_pos z] at cs hq ⊢
        exact Or.inl ⟨z, okC_s (w1 q hq) cs⟩
      · rw [if_neg z] at cs hq ⊢
        exact Or.inr ⟨z, okD_s (w2 q hq) cs⟩
    have g0 := ag_wear (s := σ.2.1) (e := e) (f := p) (p := q) he (by omega)
    generalize hs1 : setR σ.2.1 e p q 63 = s1 at g0 r
    have g1 : (agE σ.2.1 e).1.length ≤ (agE (chg σ s1).2.1 e).1.length := g0.1
    have g2 : (agE σ.2.1 e).2.1 ≤ (agE (chg σ s1).2.1 e).2.1 := g0.2.1
    have g3 : (agE σ.2.1 e).2.2 ≤ (agE (chg σ s1).2.1 e).2.2 := g0.2.2
    have le1 : s1.1.length = σ.2.1.1.length := by rw [← hs1]; exact setR_len
    have he1 : e < (chg σ s1).2.1.1.length := by show e < s1.1.length; omega
    have l1 := ag_len (s := (chg σ s1).2.1) (e := e)
    have l2 := ag_w (s := (chg σ s1).2.1) (e := e)
    have l3 := ag_f (s := (chg σ s1).2.1) (e := e)
    have hr1 : rowF s1 e p = (rowF σ.2.1 e p).set q 63 := by rw [← hs1]; exact row_setR he
    have hr1' : rowF (chg σ s1).2.1 e p = (rowF σ.2.1 e p).set q 63 := hr1
    have hq1 : q < (rowF (chg σ s1).2.1 e p).length := by rw [hr1', List.length_set]; exact hq
    have hv1 : nA (rowF (chg σ s1).2.1 e p) q = 63 := by rw [hr1', nA_set hq, if_pos rfl]
    rw [b115_79, if_neg (nI_nle (by omega) (by omega))]
    refine G.v (k71_3 r he1) r f fun h r f => ?_
    rw [b115_92, if_neg (nI_nlt g2 (Nat.lt_of_le_of_lt l2 (by omega)))]
    refine G.v (k71_4 r he1) r f fun h r f => ?_
    rw [b115_103, if_neg (nI_nlt g3 (Nat.lt_of_le_of_lt l3 (by omega)))]
    refine G.v (k71_5 r he1) r f fun h r f => ?_
    rw [b115_114, if_neg (nI_nlt g1 (Nat.lt_of_le_of_lt l1 (by omega)))]
    refine G.v (k72 r he1 hp hq1) r f fun h r f => ?_
    rw [b115_128, hv1, if_pos rfl]
    -- made out as it was
    have hbk : setR s1 e p q (nA (rowF σ.2.1 e p) q) = σ.2.1 := by rw [← hs1]; exact setR_back he hq
    have c56 := m56 (X := X) r (nI e) (nI p) (nI q) (nI (nA (rowF σ.2.1 e p) q))
    have h61 := r.h6
    unfold opMakes at c56
    rw [vR_t2 h61 he1 hp, if_pos rfl, nTN (by omega), nTN (by omega), nTN (by omega), nTN (by omega), if_pos ⟨vP_t hq1 (by omega), decide_eq_true (by rw [nI_toInt (by omega)]; omega)⟩, if_pos hv1] at c56
    rw [show (chg σ s1).2.1 = s1 from rfl, hbk] at c56
    refine G.v (v := .int (nI (wornE (en σ.2.1 e)))) (σ' := chg (chg σ s1) σ.2.1) c56 r f fun h r f => ?_
    rw [b115_144]
    have he2 : e < (chg (chg σ s1) σ.2.1).2.1.1.length := he
    refine G.v (k71_2 r he2) r f fun h r f => ?_
    rw [b115_150, show (chg (chg σ s1) σ.2.1).2.1 = σ.2.1 from rfl, if_pos rfl]
    refine G.s (m109 r) f fun h r f => ?_
    rw [b115_157, show (chg (chg σ s1) σ.2.1).2.1 = σ.2.1 from rfl, if_pos (cmp_eq _)]
    have c60 : Ct X 60 [.ref B] h B (.int (nI 1)) (chg σ s1) := by
      have c := m60 (X := X) r
      have z : opUndo (chg (chg σ s1) σ.2.1) = (nI 1, chg σ s1) := by
        obtain ⟨a, b, c, d⟩ := σ
        cases hh
        rfl
      rw [z] at c
      exact c
    refine G.v c60 r f fun h r f => ?_
    rw [b115_167, if_neg (show ¬ (nI 1 : Int32) < 0 by decide)]
    refine G.v (k60_0 r hh) r f fun h r f => ?_
    rw [b115_174, if_neg (show ¬ (nI 0 : Int32) < 0 by decide)]
    refine G.s (m109 r) f fun h r f => ?_
    rw [b115_181, if_pos (cmp_eq _)]
    exact w115_189 hh he r f K
end W115
theorem m115 {X : smX} {h : smH} {B : Nat} {σ : St} (r : RepC h B σ) (hh : σ.2.2.1 = []) (hw : WS σ.2.1) (x : Int32) : Ct X 115 [.ref B, .int x] h B (.int (nI 1)) σ := by
  have h6 := r.h6
  refine G.ct ?_
  rw [c115, b115_0]
  refine G.v (k105_0 r) r Fr.rf fun h r f => ?_
  rw [b115_5]
  by_cases c0 : σ.2.1.1.length = 0
  · rw [c0, if_pos (by decide)]
    exact G.b r f ⟨rfl, rfl⟩
  · rw [if_neg (nI_ne0 (by omega) (by omega))]
    refine G.s (k108 r x (n := σ.2.1.1.length) (by omega) (by omega)) f fun h r f => ?_
    have he := lo_lt (x := x) (n := σ.2.1.1.length) (by omega)
    obtain ⟨p, hp, ep⟩ := pk_andE (x >>> (nI 3 &&& 31)) (m := nI 1) 1 (by decide)
    rw [b115_17, ep]
    refine G.v (k71_l r he hp) r f fun h r f => ?_
    have hl := (r.row (f := p) he).1
    have hl0 : 0 < (rowF σ.2.1 (lo x σ.2.1.1.length) p).length := by
      obtain ⟨a, b, -, -⟩ := hw _ he
      unfold rowF
      split
      · exact a
      · exact b
    rw [b115_35]
    refine G.s (k108 r _ (n := (rowF σ.2.1 (lo x σ.2.1.1.length) p).length) hl0 (by omega)) f fun h r f => ?_
    rw [b115_38]
    refine G.s (m109 r) f fun h r f => ?_
    rw [b115_44]
    refine G.v (k71_3 r he) r f fun h r f => ?_
    rw [b115_52]
    refine G.v (k71_4 r he) r f fun h r f => ?_
    rw [b115_60]
    refine G.v (k71_5 r he) r f fun h r f => ?_
    exact w115_79 hh hw he hp (lo_lt hl0) r f ⟨rfl, rfl⟩
