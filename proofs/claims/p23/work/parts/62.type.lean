/-! the law's type(o, x, y) -/
theorem kty {X : smX} {h : smH} {B c : Nat} {T : List Nat} {τ : Sh × List Sh × (Nat → Option Sh)} (r : RepC h B (T, τ)) (hc : c < 256) (hT : T.length < 40) : Ct X 28 [.ref B, .int (nI c)] h B (.int (nI (T.length + 1))) (T ++ [c], τ) := by
  have d := m28 (X := X) r (nI c)
  unfold opType at d
  rw [if_pos (by rw [nI_toInt (by omega)]; omega), if_pos hT, nTN (by omega)] at d
  exact d
/-- what type(o, x, y) comes to -/
def QT (σ : St) (v : Option Value) (s : St) : Prop := v = some (.int (nI 1)) ∧ if σ.2.1.1.length = 6 then s.2 = σ.2 else ∃ p, WE p ∧ s = ([], (chg σ (σ.2.1.1 ++ [p], σ.2.1.2)).2)
section W112
variable {X : smX} {B : Nat} {τ : Sh × List Sh × (Nat → Option Sh)} {h0 : smH} {Q : Option Value → St → Prop} {y : Int32}
theorem w112_33 {n : Nat} (hn : n < 1000) : ∀ (d k : Nat) (T : List Nat) (h : smH), k + d = (spN n).length → Wk n k T → RepC h B (T, τ) → Fr h0 h B (B + 338) → (∀ h W, Wk n (spN n).length W → RepC h B (W ++ [61], τ) → Fr h0 h B (B + 338) → G B h0 Q (sm_E PP X 112 140 [(0, .ref B), (2, .int y), (3, .int (nI n)), (4, .int (nI 1)), (6, .int (nI 0)), (7, .int (nI 100)), (8, .int (nI n))] [] h)) → G B h0 Q (sm_E PP X 112 33 [(0, .ref B), (2, .int y), (3, .int (nI n)), (4, .int (nI 1)), (5, .int (nI (spN n).length)), (6, .int (nI k))] [] h) := by
  have hl := spN_len hn
  intro d
  induction d with
  | zero =>
    intro k T h hd hw r f K
    obtain rfl : k = (spN n).length := by omega
    have hT : T.length < 40 := by have := hw.1; omega
    rw [b112_33, if_pos (nI_le (Nat.le_refl _) (by omega)), if_neg (by decide)]
    refine G.v (kty r (by omega) hT) r f fun h r f => ?_
    rw [b112_116, hw.1, nI_add, if_pos rfl, b112_128]
    exact K h T hw r f
  | succ d ih =>
    intro k T h hd hw r f K
    have hk : k < (spN n).length := by omega
    have hT : T.length < 40 := by have := hw.1; omega
    have hc : nA (spN n) k < 256 := by have := spN_let hn hk; omega
    rw [b112_33, if_neg (nI_ge (by omega) (by omega))]
    refine G.v (k79_k r hn hk) r f fun h r f => ?_
    have A : ∀ h c, c < 256 → (c = nA (spN n) k ∨ (c = 63 ∧ nA (spN n) k ≠ 32)) → RepC h B (T, τ) → Fr h0 h B (B + 338) → G B h0 Q (sm_E PP X 112 82 [(0, .ref B), (2, .int y), (3, .int (nI n)), (5, .int (nI (spN n).length)), (6, .int (nI k))] [.int (nI c), .ref B] h) := fun h c c1 c2 r f => by
      rw [b112_82]
      refine G.v (kty r c1 hT) r f fun h r f => ?_
      rw [b112_85, hw.1, nI_add, if_pos rfl, b112_97]
      rw [nI_add]
      refine ih (k + 1) _ h (by omega) ⟨by rw [List.length_append, hw.1]; rfl, fun j hj => ?_⟩ r f K
      rw [nA_app]
      by_cases q : j < T.length
      · rw [if_pos q]; exact hw.2 j (by have := hw.1; omega)
      · rw [if_neg q, show j = k by have := hw.1; omega, show k - T.length = 0 by have := hw.1; omega]
        exact c2
    rw [b112_47, if_neg (by decide)]
    split
    · rw [b112_80]
      exact A h _ hc (Or.inl rfl) r f
    · rename_i c32
      rw [if_neg (by decide)]
      split
      · exact A h 63 (by omega) (Or.inr ⟨rfl, fun q => c32 (by rw [q])⟩) r f
      · rw [b112_80]
        exact A h _ hc (Or.inl rfl) r f
theorem or2 {a b : Nat} (ha : a < 2) (hb : b < 2) : nI a ||| nI b = nI (if a = 0 ∧ b = 0 then 0 else 1) := by
  match a, b, ha, hb with
  | 0, 0, _, _ => decide
  | 0, 1, _, _ => decide
  | 1, 0, _, _ => decide
  | 1, 1, _, _ => decide
theorem w112_140 {n b by0 left : Nat} {T : List Nat} {h : smH} (h1 : 0 < by0) (h2 : by0 ≤ 100) (h3 : left < 10 * by0) (hb : b < 2) (hT : T.length < 40) (r : RepC h B (T, τ)) (f : Fr h0 h B (B + 338))
    (K0 : b = 0 ∧ left / by0 = 0 ∧ by0 ≠ 1 → ∀ h, RepC h B (T, τ) → Fr h0 h B (B + 338) → G B h0 Q (sm_E PP X 112 140 [(0, .ref B), (2, .int y), (3, .int (nI n)), (4, .int (nI 1)), (6, .int (nI 0)), (7, .int (nI (by0 / 10))), (8, .int (nI (left % by0)))] [] h))
    (K1 : ∀ h d, dgt d (left / by0) → RepC h B (T ++ [d], τ) → Fr h0 h B (B + 338) → ¬ (b = 0 ∧ left / by0 = 0 ∧ by0 ≠ 1) → G B h0 Q (sm_E PP X 112 140 [(0, .ref B), (2, .int y), (3, .int (nI n)), (4, .int (nI 1)), (6, .int (nI 1)), (7, .int (nI (by0 / 10))), (8, .int (nI (left % by0)))] [] h)) :
    G B h0 Q (sm_E PP X 112 140 [(0, .ref B), (2, .int y), (3, .int (nI n)), (4, .int (nI 1)), (6, .int (nI b)), (7, .int (nI by0)), (8, .int (nI left))] [] h) := by
  have hq : left / by0 < 10 := by
    rw [Nat.div_lt_iff_lt_mul h1]; exact h3
  have A : ∀ q : Nat, q < 2 → (q = 0 ↔ (left / by0 = 0 ∧ by0 ≠ 1)) → G B h0 Q (sm_E PP X 112 177 [(0, .ref B), (2, .int y), (3, .int (nI n)), (4, .int (nI 1)), (7, .int (nI by0)), (8, .int (nI (left % by0))), (9, .int (nI (left / by0)))] [.int (nI q), .int (nI b)] h) := fun q q2 qi => by
    rw [b112_177, if_neg (by decide), or2 hb q2]
    by_cases c : b = 0 ∧ q = 0
    · rw [if_pos c, if_pos (by decide), b112_218, b112_223, if_neg (by decide), pk_div (by omega) (by omega) (by omega)]
      exact K0 ⟨c.1, qi.mp c.2⟩ h r f
    · have nc : ¬ (b = 0 ∧ left / by0 = 0 ∧ by0 ≠ 1) := fun z => c ⟨z.1, qi.mpr z.2⟩
      rw [if_neg c, if_neg (by decide), nI_add]
      have A2 : ∀ d, d < 256 → dgt d (left / by0) → G B h0 Q (sm_E PP X 112 212 [(0, .ref B), (2, .int y), (3, .int (nI n)), (6, .int (nI 1)), (7, .int (nI by0)), (8, .int (nI (left % by0)))] [.int (nI d), .ref B] h) := fun d hd dd => by
        rw [b112_212]
        refine G.v (kty r hd hT) r f fun h r f => ?_
        rw [b112_215, if_neg (nI_nle (by omega) (by omega)), b112_218, b112_223, if_neg (by decide), pk_div (by omega) (by omega) (by omega)]
        exact K1 h d dd r f nc
      split
      · exact A2 _ (by omega) (Or.inr rfl)
      · exact A2 63 (by omega) (Or.inl rfl)
  rw [b112_140, if_neg (nI_nle h1 (by omega)), if_neg (nI_ne0 h1 (by omega)), if_neg (nI_ne0 h1 (by omega)), pk_rem (by omega) h1 (by omega), pk_div (by omega) h1 (by omega)]
  by_cases c : 0 < left / by0
  · rw [if_pos (show (0 : Int32) < nI (left / by0) from nI_lt (a := 0) c (by omega)), b112_172]
    exact A 1 (by omega) ⟨fun z => by omega, fun z => by omega⟩
  · rw [if_neg (show ¬ (0 : Int32) < nI (left / by0) from nI_nlt (a := 0) (b := left / by0) (by omega) (by omega))]
    by_cases c1 : by0 = 1
    · rw [if_pos (show nI by0 = nI 1 by rw [c1]), b112_172]
      exact A 1 (by omega) ⟨fun z => by omega, fun z => by omega⟩
    · rw [if_neg (show ¬ nI by0 = nI 1 from fun z => c1 ((nI_eq (by omega) (by omega)).mp z))]
      exact A 0 (by omega) ⟨fun z => ⟨Nat.eq_zero_of_not_pos c, c1⟩, fun z => rfl⟩
/-- all figures -/
theorem w112_fig {n : Nat} {T : List Nat} {h : smH} (hn : n < 1000) (hT : T.length < 36) (r : RepC h B (T, τ)) (f : Fr h0 h B (B + 338))
    (K : ∀ h F b, Fk n F → RepC h B (T ++ F, τ) → Fr h0 h B (B + 338) → G B h0 Q (sm_E PP X 112 140 [(0, .ref B), (2, .int y), (3, .int (nI n)), (4, .int (nI 1)), (6, .int (nI b)), (7, .int (nI 0)), (8, .int (nI 0))] [] h)) :
    G B h0 Q (sm_E PP X 112 140 [(0, .ref B), (2, .int y), (3, .int (nI n)), (4, .int (nI 1)), (6, .int (nI 0)), (7, .int (nI 100)), (8, .int (nI n))] [] h) := by
  refine w112_140 (by0 := 100) (b := 0) (left := n) (by omega) (by omega) (by omega) (by omega) (by omega) r f (fun c h r f => ?_) (fun h d1 dd1 r f c => ?_)
  · show G B h0 Q (sm_E PP X 112 140 [(0, .ref B), (2, .int y), (3, .int (nI n)), (4, .int (nI 1)), (6, .int (nI 0)), (7, .int (nI 10)), (8, .int (nI (n % 100)))] [] h)
    rw [Nat.mod_eq_of_lt (show n < 100 by omega)]
    refine w112_140 (by0 := 10) (b := 0) (left := n) (by omega) (by omega) (by omega) (by omega) (by omega) r f (fun c h r f => ?_) (fun h d1 dd1 r f c2 => ?_)
    · show G B h0 Q (sm_E PP X 112 140 [(0, .ref B), (2, .int y), (3, .int (nI n)), (4, .int (nI 1)), (6, .int (nI 0)), (7, .int (nI 1)), (8, .int (nI (n % 10)))] [] h)
      rw [Nat.mod_eq_of_lt (show n < 10 by omega)]
      refine w112_140 (by0 := 1) (b := 0) (left := n) (by omega) (by omega) (by omega) (by omega) (by omega) r f (fun c h r f => by omega) (fun h d1 dd1 r f c => ?_)
      rw [Nat.div_one] at dd1
      rw [Nat.mod_one]
      exact K h [d1] 1 (Fk_1 (by omega) dd1) r f
    · show G B h0 Q (sm_E PP X 112 140 [(0, .ref B), (2, .int y), (3, .int (nI n)), (4, .int (nI 1)), (6, .int (nI 1)), (7, .int (nI 1)), (8, .int (nI (n % 10)))] [] h)
      refine w112_140 (by0 := 1) (b := 1) (left := n % 10) (by omega) (by omega) (by omega) (by omega) (by simp <;> omega) r f (fun c h r f => by omega) (fun h d2 dd2 r f c => ?_)
      rw [Nat.div_one] at dd2
      rw [Nat.mod_one]
      rw [List.append_assoc] at r
      exact K h [d1, d2] 1 (Fk_2 (by omega) (by omega) dd1 dd2) r f
  · show G B h0 Q (sm_E PP X 112 140 [(0, .ref B), (2, .int y), (3, .int (nI n)), (4, .int (nI 1)), (6, .int (nI 1)), (7, .int (nI 10)), (8, .int (nI (n % 100)))] [] h)
    refine w112_140 (by0 := 10) (b := 1) (left := n % 100) (by omega) (by omega) (by omega) (by omega) (by simp <;> omega) r f (fun c h r f => by omega) (fun h d2 dd2 r f c2 => ?_)
    show G B h0 Q (sm_E PP X 112 140 [(0, .ref B), (2, .int y), (3, .int (nI n)), (4, .int (nI 1)), (6, .int (nI 1)), (7, .int (nI 1)), (8, .int (nI (n % 100 % 10)))] [] h)
    refine w112_140 (by0 := 1) (b := 1) (left := n % 100 % 10) (by omega) (by omega) (by omega) (by omega) (by simp <;> omega) r f (fun c h r f => by omega) (fun h d3 dd3 r f c3 => ?_)
    rw [Nat.div_one] at dd3
    rw [Nat.mod_one]
    rw [List.append_assoc, List.append_assoc] at r
    exact K h [d1, d2, d3] 1 (Fk_3 (by omega) hn dd1 dd2 dd3) r f
end W112
theorem m112 {X : smX} {h0 : smH} {B : Nat} {σ : St} (r : RepC h0 B σ) (x y : Int32) : G B h0 (QT σ) (sm_C PP X 112 [.ref B, .int x, .int y] h0) := by
  rw [c112, b112_0]
  refine G.s (k108 r x (n := 1000) (by omega) (by omega)) Fr.rf fun h r f => ?_
  have hn := lo_lt (x := x) (n := 1000) (by omega)
  generalize lo x 1000 = n at hn
  have hl := spN_len hn
  have ht : σ.1.length ≤ 40 := r.1.2.1.2.1.1
  rw [b112_7]
  refine G.v (v := .int (nI σ.1.length)) (σ' := ([], σ.2)) (m29 r) r f fun h r f => ?_
  rw [b112_12, if_neg (nI_pos (by omega)), b112_20]
  refine G.v (k79_l r hn) r f fun h r f => ?_
  rw [b112_28]
  refine w112_33 hn (spN n).length 0 [] h (by omega) ⟨rfl, fun j hj => by omega⟩ r f fun h W hW r f => ?_
  have hWl : W.length = (spN n).length := hW.1
  refine w112_fig hn (by simp <;> omega) r f fun h F b hF r f => ?_
  obtain ⟨ok1, ok2⟩ := told_ok hn hW hF
  rw [b112_140, if_pos (by decide)]
  refine G.v (k105_0 r) r f fun h r f => ?_
  rw [b112_240]
  have h6 : σ.2.1.1.length ≤ 6 := r.h6
  have c47 := m47 (X := X) r
  unfold opTells at c47
  by_cases c6 : σ.2.1.1.length < 6
  · have hWE : WE (W, F) := by
      rw [← ok2]; exact WE_enT ok1
    rw [if_pos (show ((W ++ [61] ++ F, σ.2) : St).2.1.1.length < 6 from c6)] at c47
    simp only [ok1, ok2] at c47
    refine G.v (v := .int (nI σ.2.1.1.length)) (σ' := ([], (chg σ (σ.2.1.1 ++ [(W, F)], σ.2.1.2)).2)) c47 r f fun h r f => ?_
    have hlen : ((([], (chg σ (σ.2.1.1 ++ [(W, F)], σ.2.1.2)).2) : St)).2.1.1.length = σ.2.1.1.length + 1 := by
      show (σ.2.1.1 ++ [(W, F)]).length = _
      simp
    have hen : en ((([], (chg σ (σ.2.1.1 ++ [(W, F)], σ.2.1.2)).2) : St)).2.1 σ.2.1.1.length = (W, F) := by
      show en (σ.2.1.1 ++ [(W, F)], σ.2.1.2.1, σ.2.1.2.2) σ.2.1.1.length = _
      rw [en_app, if_neg (by omega), if_pos rfl]
    have he : σ.2.1.1.length < ((([], (chg σ (σ.2.1.1 ++ [(W, F)], σ.2.1.2)).2) : St)).2.1.1.length := by rw [hlen]; omega
    generalize hσ2 : ((([], (chg σ (σ.2.1.1 ++ [(W, F)], σ.2.1.2)).2) : St)) = σ2 at hlen hen he r
    obtain ⟨a, ha⟩ := dW_t (sl := σ2.2.1.2.1) hW
    obtain ⟨⟨b2, hb⟩, fl1, fl3, -⟩ := hF
    have ba := dW_le (by omega) ha
    have bb := dF_le fl3 hb
    have hag : 0 < (agE σ2.2.1 σ.2.1.1.length).1.length := by
      show 0 < (agl (en σ2.2.1 σ.2.1.1.length).1 (en σ2.2.1 σ.2.1.1.length).2 σ2.2.1.2.1 1000 0).length
      rw [hen]
      exact agl_in ha hb 1000 0 (by omega) (by omega)
    have hal := ag_len (s := σ2.2.1) (e := σ.2.1.1.length)
    rw [b112_246]
    rw [if_neg (show ¬ nI σ.2.1.1.length = nI 6 from fun q => by rw [nI_eq (by omega) (by omega)] at q; omega), if_neg (by decide)]
    rw [if_pos rfl]
    refine G.v (k73_w r he hn) r f fun h r f => ?_
    rw [b112_293, hen, ha, oIs, if_neg (neg9_ne (show a < 2 ^ 30 by omega))]
    refine G.v (k73_f r he hn) r f fun h r f => ?_
    rw [b112_306, hen, hb, oIs, if_neg (neg9_ne (show b2 < 2 ^ 30 by omega))]
    refine G.v (k71_5 r he) r f fun h r f => ?_
    rw [b112_318, if_neg (nI_nle hag (by omega)), b112_326]
    refine G.b r f ⟨rfl, ?_⟩
    rw [if_neg (by omega)]
    exact ⟨(W, F), hWE, hσ2.symm⟩
  · rw [if_neg (show ¬ ((W ++ [61] ++ F, σ.2) : St).2.1.1.length < 6 from c6)] at c47
    refine G.v (v := .int (-nI 3)) (σ' := (W ++ [61] ++ F, σ.2)) c47 r f fun h r f => ?_
    rw [b112_246, if_pos (show nI σ.2.1.1.length = nI 6 by rw [show σ.2.1.1.length = 6 by omega]), if_neg (by decide), if_pos rfl, b112_272]
    refine G.b r f ⟨rfl, ?_⟩
    rw [if_pos (show σ.2.1.1.length = 6 by omega)]
