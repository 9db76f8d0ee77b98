/-! the law's least(o) -/
theorem pfx_le {g : Nat → Nat} {M : Nat} : ∀ n : Nat, (∀ j, j < n → g j ≤ M) → pfx g n ≤ M * n := by
  intro n
  induction n with
  | zero => intro _; exact Nat.zero_le _
  | succ n ih =>
    intro h
    have a := ih (fun j hj => h j (by omega))
    have b := h n (by omega)
    show pfx g n + g n ≤ M * (n + 1)
    rw [Nat.mul_succ]
    omega
def lsv (s : Sh) (e : Nat) : Int32 := match leastD s with
  | none => -nI 9
  | some _ => nI (lnE s e)
theorem k91_g {X : smX} {h : smH} {B e : Nat} {σ : St} (r : RepC h B σ) (he : e < σ.2.1.1.length) : Ct X 91 [.ref B, .int (nI e)] h B (.int (lsv σ.2.1 e)) σ := by
  unfold lsv
  cases hv : leastD σ.2.1 with
  | none => exact k91_n r he hv
  | some v => exact k91_s r he hv
section W111
variable {X : smX} {B : Nat} {σ : St} {h0 : smH} {Q : Option Value → St → Prop}
theorem w111_pre {e : Nat} {x2 x3 x4 x5 x7 : Int32} {h : smH} (he : e < σ.2.1.1.length) (r : RepC h B σ) (f : Fr h0 h B (B + 338)) (K : ∀ h x7, RepC h B σ → Fr h0 h B (B + 338) → G B h0 Q (sm_E PP X 111 133 [(0, .ref B), (1, .int (nI σ.2.1.1.length)), (2, .int x2), (3, .int x3), (4, .int x4), (5, .int x5), (6, .int (nI (pfx (fdE σ.2.1) (e + 1)))), (7, .int x7), (8, .int (nI (pfx (fnE σ.2.1) (e + 1)))), (9, .int (nI e)), (10, .int (lsv σ.2.1 e))] [.int (oI (sur σ.2.1 e))] h)) : G B h0 Q (sm_E PP X 111 36 [(0, .ref B), (1, .int (nI σ.2.1.1.length)), (2, .int x2), (3, .int x3), (4, .int x4), (5, .int x5), (6, .int (nI (pfx (fdE σ.2.1) e))), (7, .int x7), (8, .int (nI (pfx (fnE σ.2.1) e))), (9, .int (nI e))] [] h) := by
  have h6 := r.h6
  have hl := ag_len (s := σ.2.1) (e := e)
  -- the stretch behind 63
  have A : ∀ h x7, RepC h B σ → Fr h0 h B (B + 338) → G B h0 Q (sm_E PP X 111 63 [(0, .ref B), (1, .int (nI σ.2.1.1.length)), (2, .int x2), (3, .int x3), (4, .int x4), (5, .int x5), (6, .int (nI (pfx (fdE σ.2.1) e))), (8, .int (nI (pfx (fnE σ.2.1) e))), (9, .int (nI e))] [.int x7] h) := fun h x7 r f => by
    have A3 : ∀ h, RepC h B σ → Fr h0 h B (B + 338) → G B h0 Q (sm_E PP X 111 116 [(0, .ref B), (1, .int (nI σ.2.1.1.length)), (2, .int x2), (3, .int x3), (4, .int x4), (5, .int x5), (7, .int x7), (8, .int (nI (pfx (fnE σ.2.1) (e + 1)))), (9, .int (nI e))] [.int (nI (fdE σ.2.1 e)), .int (nI (pfx (fdE σ.2.1) e))] h) := fun h r f => by
      rw [b111_116]
      refine G.v (k91_g r he) r f fun h r f => ?_
      rw [b111_125, nI_add]
      refine G.v (k98 r he) r f fun h r f => ?_
      exact K h x7 r f
    have A2 : ∀ h, RepC h B σ → Fr h0 h B (B + 338) → G B h0 Q (sm_E PP X 111 89 [(0, .ref B), (1, .int (nI σ.2.1.1.length)), (2, .int x2), (3, .int x3), (4, .int x4), (5, .int x5), (6, .int (nI (pfx (fdE σ.2.1) e))), (7, .int x7), (9, .int (nI e))] [.int (nI (fnE σ.2.1 e)), .int (nI (pfx (fnE σ.2.1) e))] h) := fun h r f => by
      rw [b111_89]
      refine G.v (k71_5 r he) r f fun h r f => ?_
      rw [b111_101, nI_add]
      have e1 : ∀ h, RepC h B σ → Fr h0 h B (B + 338) → G B h0 Q (sm_E PP X 111 116 [(0, .ref B), (1, .int (nI σ.2.1.1.length)), (2, .int x2), (3, .int x3), (4, .int x4), (5, .int x5), (7, .int x7), (8, .int (nI (pfx (fnE σ.2.1) e + fnE σ.2.1 e))), (9, .int (nI e))] [.int (nI (fdE σ.2.1 e)), .int (nI (pfx (fdE σ.2.1) e))] h) := A3
      unfold fdE at e1
      by_cases c0 : 0 < (agE σ.2.1 e).1.length
      · rw [if_neg (nI_nle c0 (by omega))]
        refine G.v (k78_1 r he c0) r f fun h r f => ?_
        rw [b111_112]
        rw [if_pos c0] at e1
        exact e1 h r f
      · rw [if_neg c0] at e1
        rw [show (agE σ.2.1 e).1.length = 0 by omega, if_pos (by decide)]
        exact e1 h r f
    rw [b111_63]
    refine G.v (k71_5 r he) r f fun h r f => ?_
    rw [b111_74]
    unfold fnE at A2
    by_cases c0 : 0 < (agE σ.2.1 e).1.length
    · rw [if_neg (nI_nle c0 (by omega))]
      refine G.v (k78_0 r he c0) r f fun h r f => ?_
      rw [b111_85]
      rw [if_pos c0] at A2
      exact A2 h r f
    · rw [if_neg c0] at A2
      rw [show (agE σ.2.1 e).1.length = 0 by omega, if_pos (by decide)]
      exact A2 h r f
  rw [b111_36, if_neg (nI_ge he (by omega))]
  by_cases c7 : x7 = 0
  · rw [if_pos c7, b111_62]
    exact A h _ r f
  · rw [if_neg c7]
    refine G.v (k71_5 r he) r f fun h r f => ?_
    rw [b111_54]
    split
    · exact A h _ r f
    · rw [b111_62]
      exact A h _ r f
theorem w111_n (hv : leastD σ.2.1 = none) : ∀ (d e : Nat) (x7 : Int32) (h : smH), e + d = σ.2.1.1.length → RepC h B σ → Fr h0 h B (B + 338) → Q (some (.int (nI 1))) σ → G B h0 Q (sm_E PP X 111 36 [(0, .ref B), (1, .int (nI σ.2.1.1.length)), (2, .int (oI σ.2.1.2.2)), (3, .int (-nI 9)), (4, .int (nI 0)), (5, .int (nI 0)), (6, .int (nI (pfx (fdE σ.2.1) e))), (7, .int x7), (8, .int (nI (pfx (fnE σ.2.1) e))), (9, .int (nI e))] [] h) := by
  intro d
  induction d with
  | zero =>
    intro e x7 h hd r f K
    have h6 := r.h6
    have ok := r.ok
    have sb := r.sb
    obtain rfl : e = σ.2.1.1.length := by omega
    have ha := (alt_le (s := σ.2.1) σ.2.1.1.length 0 0).2
    have hp := pfx_le (g := fnE σ.2.1) (M := 1000) σ.2.1.1.length (fun j hj => by
      unfold fnE
      split
      · rename_i c; have := ag_lt (rk_ok c).2.1; omega
      · omega)
    rw [b111_36, if_pos (nI_le (Nat.le_refl _) (by omega)), if_pos rfl]
    refine G.v (k105_1 r) r f fun h r f => ?_
    rw [b111_286]
    have fin : G B h0 Q (sm_E PP X 111 306 [] [] h) := by
      rw [b111_306, b111_311]
      exact G.b r f K
    by_cases c0 : 0 < alt σ.2.1 σ.2.1.1.length 0 0
    · rw [if_pos (show (0 : Int32) < nI _ from nI_lt (a := 0) c0 (by omega))]
      exact fin
    · rcases none_end ok h6 hv with q | ⟨t, t1, t2⟩
      · exact absurd q c0
      · have ht := sb.2.2 t t1
        rw [if_neg (show ¬ (0 : Int32) < nI (alt σ.2.1 σ.2.1.1.length 0 0) from nI_nlt (a := 0) (b := alt σ.2.1 σ.2.1.1.length 0 0) (by omega) (by omega)), t1, oIs, if_neg (neg9_ne (show t < 2 ^ 30 by omega))]
        rw [if_neg (show ¬ nI (pfx (fnE σ.2.1) σ.2.1.1.length) = nI t from fun q => t2 ((nI_eq (by omega) (by omega)).mp q))]
        split <;> exact fin
  | succ d ih =>
    intro e x7 h hd r f K
    have h6 := r.h6
    refine w111_pre (by omega) r f fun h x7 r f => ?_
    have e1 : lsv σ.2.1 e = -nI 9 := by unfold lsv; rw [hv]
    rw [b111_133, if_pos rfl, e1, if_pos rfl, sur_none r.ok h6 (show e < σ.2.1.1.length by omega) hv, oIn, if_pos rfl, b111_269, nI_add]
    exact ih (e + 1) x7 h (by omega) r f K
theorem w111_s {v : Nat} (hv : leastD σ.2.1 = some v) : ∀ (d e : Nat) (x7 : Int32) (h : smH), e + d = σ.2.1.1.length → RepC h B σ → Fr h0 h B (B + 338) → Q (some (.int (nI 1))) σ → G B h0 Q (sm_E PP X 111 36 [(0, .ref B), (1, .int (nI σ.2.1.1.length)), (2, .int (oI σ.2.1.2.2)), (3, .int (nI v)), (4, .int (nI (pfx (lnE σ.2.1) e))), (5, .int (nI (pfx (ddE σ.2.1) e))), (6, .int (nI (pfx (fdE σ.2.1) e))), (7, .int x7), (8, .int (nI (pfx (fnE σ.2.1) e))), (9, .int (nI e))] [] h) := by
  obtain ⟨l0, l1, l2, l3, l4⟩ := least_ok hv
  intro d
  induction d with
  | zero =>
    intro e x7 h hd r f K
    have h6 := r.h6
    have sb := r.sb
    have v6 := leastD_le r.ok h6 hv
    obtain rfl : e = σ.2.1.1.length := by omega
    rw [b111_36, if_pos (nI_le (Nat.le_refl _) (by omega)), if_neg (neg9_ne (show v < 2 ^ 30 by omega))]
    refine G.v (k105_1 r) r f fun h r f => ?_
    have fin : G B h0 Q (sm_E PP X 111 338 [(3, .int (nI v)), (6, .int (nI (pfx (fdE σ.2.1) σ.2.1.1.length)))] [] h) := by
      rw [b111_338, if_neg (nI_nlt l2 (by omega)), b111_349]
      exact G.b r f K
    rw [b111_317, l0, if_pos (by decide), ← l1, if_pos rfl]
    cases ht : σ.2.1.2.2 with
    | none =>
      rw [oIn, if_pos rfl]
      exact fin
    | some t =>
      have ht2 := sb.2.2 t ht
      rw [oIs, if_neg (neg9_ne (show t < 2 ^ 30 by omega)), (l3 t ht).1, if_pos rfl]
      exact fin
  | succ d ih =>
    intro e x7 h hd r f K
    have h6 := r.h6
    have sb := r.sb
    have v6 := leastD_le r.ok h6 hv
    have he : e < σ.2.1.1.length := by omega
    obtain ⟨j, j1, j2⟩ := ln_at hv he
    have hl := ag_len (s := σ.2.1) (e := e)
    have hlt : lnE σ.2.1 e < 1000 := by rw [j2]; exact ag_lt j1
    obtain ⟨d1, ⟨a, da⟩, b, db⟩ := dd_of j1 j2
    have hr0 : (en σ.2.1 e).1.length ≤ 31 := (r.row (f := 0) he).1
    have ha := dW_le hr0 da
    have hc3 := r.1.2.2.1.row (f := 1) he
    have hr1 : (en σ.2.1 e).2.length ≤ 3 := hc3.2.1.1
    have hb := dF_le hr1 db
    refine w111_pre he r f fun h x7 r f => ?_
    have e1 : lsv σ.2.1 e = nI (lnE σ.2.1 e) := by unfold lsv; rw [hv]
    rw [b111_133, if_neg (neg9_ne (show v < 2 ^ 30 by omega)), e1]
    refine G.v (k73_w r he hlt) r f fun h r f => ?_
    rw [b111_166, da, oIs, if_neg (neg9_ne (show a < 2 ^ 30 by omega))]
    refine G.v (k73_f r he hlt) r f fun h r f => ?_
    rw [b111_180, db, oIs, if_neg (neg9_ne (show b < 2 ^ 30 by omega))]
    have C3 : ∀ h, RepC h B σ → Fr h0 h B (B + 338) → G B h0 Q (sm_E PP X 111 238 [(0, .ref B), (1, .int (nI σ.2.1.1.length)), (2, .int (oI σ.2.1.2.2)), (3, .int (nI v)), (4, .int (nI (pfx (lnE σ.2.1) e))), (5, .int (nI (pfx (ddE σ.2.1) e))), (6, .int (nI (pfx (fdE σ.2.1) (e + 1)))), (7, .int x7), (8, .int (nI (pfx (fnE σ.2.1) (e + 1)))), (9, .int (nI e)), (10, .int (nI (lnE σ.2.1 e)))] [] h) := fun h r f => by
      rw [b111_238]
      refine G.v (k73_w r he hlt) r f fun h r f => ?_
      rw [b111_256]
      refine G.v (k73_f r he hlt) r f fun h r f => ?_
      rw [b111_265, b111_269, da, db, oIs, oIs, nI_add, nI_add, nI_add, nI_add]
      have g := ih (e + 1) x7 h (by omega) r f K
      have z : ddE σ.2.1 e = a + b := by unfold ddE; rw [da, db]; rfl
      have g2 : pfx (ddE σ.2.1) (e + 1) = pfx (ddE σ.2.1) e + (a + b) := by rw [← z]; rfl
      rw [g2] at g
      exact g
    have C2 : ∀ h, RepC h B σ → Fr h0 h B (B + 338) → G B h0 Q (sm_E PP X 111 218 [(0, .ref B), (1, .int (nI σ.2.1.1.length)), (2, .int (oI σ.2.1.2.2)), (3, .int (nI v)), (4, .int (nI (pfx (lnE σ.2.1) e))), (5, .int (nI (pfx (ddE σ.2.1) e))), (6, .int (nI (pfx (fdE σ.2.1) (e + 1)))), (7, .int x7), (8, .int (nI (pfx (fnE σ.2.1) (e + 1)))), (9, .int (nI e)), (10, .int (nI (lnE σ.2.1 e))), (11, .int (oI (sur σ.2.1 e)))] [] h) := fun h r f => by
      rw [b111_218]
      refine G.v (k71_5 r he) r f fun h r f => ?_
      rw [b111_225]
      by_cases c1 : (agE σ.2.1 e).1.length = 1
      · rw [c1, if_pos rfl, sur_one hv he c1, oIs, if_pos rfl]
        exact C3 h r f
      · rw [if_neg (show ¬ nI _ = nI 1 from fun q => c1 ((nI_eq (by omega) (by omega)).mp q))]
        exact C3 h r f
    have C1 : G B h0 Q (sm_E PP X 111 199 [(0, .ref B), (1, .int (nI σ.2.1.1.length)), (2, .int (oI σ.2.1.2.2)), (3, .int (nI v)), (4, .int (nI (pfx (lnE σ.2.1) e))), (5, .int (nI (pfx (ddE σ.2.1) e))), (6, .int (nI (pfx (fdE σ.2.1) (e + 1)))), (7, .int x7), (8, .int (nI (pfx (fnE σ.2.1) (e + 1)))), (9, .int (nI e)), (10, .int (nI (lnE σ.2.1 e))), (11, .int (oI (sur σ.2.1 e)))] [] h) := by
      rw [b111_199]
      by_cases ct : σ.2.1.2.2 = none
      · rw [if_pos (show oI σ.2.1.2.2 = -nI 9 by rw [ct]; rfl)]
        refine G.v (k78_0 r he (by omega)) r f fun h r f => ?_
        rw [b111_215, if_pos (show nI (lnE σ.2.1 e) = nI _ by rw [l4 ct e he])]
        exact C2 h r f
      · rw [if_neg (show ¬ oI σ.2.1.2.2 = -nI 9 from fun q => by
          cases ht : σ.2.1.2.2 with
          | none => exact ct ht
          | some t =>
            have ht2 := sb.2.2 t ht
            rw [ht, oIs] at q
            exact neg9_ne (show t < 2 ^ 30 by omega) q)]
        exact C2 h r f
    cases hs : sur σ.2.1 e with
    | none =>
      rw [hs] at C1
      rw [oIn, if_pos rfl]
      exact C1
    | some w =>
      have hw := sur_eq hv he hs
      rw [hs] at C1
      rw [oIs] at C1 ⊢
      rw [hw] at C1 ⊢
      rw [if_neg (neg9_ne (show lnE σ.2.1 e < 2 ^ 30 by omega)), if_pos rfl]
      exact C1
end W111
theorem m111 {X : smX} {h : smH} {B : Nat} {σ : St} (r : RepC h B σ) : Ct X 111 [.ref B] h B (.int (nI 1)) σ := by
  refine G.ct ?_
  rw [c111, b111_0]
  refine G.v (k105_0 r) r Fr.rf fun h r f => ?_
  rw [b111_5]
  refine G.v (k105_3 r) r f fun h r f => ?_
  rw [b111_11]
  refine G.v (k91_a r) r f fun h r f => ?_
  rw [b111_17]
  cases hv : leastD σ.2.1 with
  | none => exact w111_n hv σ.2.1.1.length 0 _ h (by omega) r f ⟨rfl, rfl⟩
  | some v => exact w111_s hv σ.2.1.1.length 0 _ h (by omega) r f ⟨rfl, rfl⟩
