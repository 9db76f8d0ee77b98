/-! the law's does(o, x, y): one deed, or nothing, or the undoing -/
def QD (σ : St) (k : Nat) (v : Option Value) (s : St) : Prop := (∃ w, v = some (.int w)) ∧ if k ≤ 13 then Did σ s else s = (opUndo σ).2
section W113
variable {X : smX} {B : Nat} {σ : St} {h0 : smH}
theorem QD_y {k : Nat} {w : Int32} {s : St} (hk : k ≤ 13) (d : Did σ s) : QD σ k (some (.int w)) s := ⟨⟨w, rfl⟩, by rw [if_pos hk]; exact d⟩
theorem w113_170 {k : Nat} (hk : k ≤ 13) (hw : WS σ.2.1) {h : smH} (s0 s1 s2 s3 : Int32) (r : RepC h B σ) (f : Fr h0 h B (B + 338)) : G B h0 (QD σ k) (sm_E PP X 113 170 [] [.int s0, .int s1, .int s2, .int s3, .ref B] h) := by
  rw [b113_170]
  refine G.v (m56 r s3 s2 s1 s0) r f fun h r f => ?_
  rw [b113_173, b113_264]
  exact G.d r f (QD_y hk (did_makes hw _ _ _ _))
theorem w113_89 {k : Nat} (hk : k < 16) (hw : WS σ.2.1) {h : smH} (x1 x2 x4 x5 x6 s0 : Int32) (r : RepC h B σ) (f : Fr h0 h B (B + 338)) : G B h0 (QD σ k) (sm_E PP X 113 89 [(0, .ref B), (1, .int x1), (2, .int x2), (3, .int (nI k)), (4, .int x4), (5, .int x5), (6, .int x6)] [.int s0] h) := by
  rw [b113_89]
  by_cases c6 : 6 ≤ k
  · rw [if_pos (nI_le c6 (by omega))]
    by_cases c10 : 10 ≤ k
    · rw [if_pos (nI_le c10 (by omega))]
      by_cases d10 : k = 10
      · rw [if_pos (show nI k = nI 10 by rw [d10])]
        refine G.v (m50 r x5) r f fun h r f => ?_
        rw [b113_188, b113_264]
        exact G.d r f (QD_y (by omega) (did_drops hw _))
      · rw [if_neg (show ¬ nI k = nI 10 from fun q => d10 ((nI_eq (by omega) (by omega)).mp q))]
        by_cases d11 : k = 11
        · rw [if_pos (show nI k = nI 11 by rw [d11])]
          have A : ∀ h t, RepC h B σ → Fr h0 h B (B + 338) → G B h0 (QD σ k) (sm_E PP X 113 212 [] [.int t, .ref B] h) := fun h t r f => by
            rw [b113_212]
            refine G.v (m57 r t) r f fun h r f => ?_
            rw [b113_215, b113_264]
            exact G.d r f (QD_y (by omega) (did_slacks hw _))
          by_cases c4 : x4 = 0
          · rw [if_pos c4]
            refine G.s (k108 r x2 (n := 3) (by omega) (by omega)) f fun h r f => ?_
            exact A h _ r f
          · rw [if_neg c4]
            exact A h _ r f
        · rw [if_neg (show ¬ nI k = nI 11 from fun q => d11 ((nI_eq (by omega) (by omega)).mp q))]
          by_cases c14 : 14 ≤ k
          · rw [if_pos (nI_le c14 (by omega))]
            refine G.v (m60 r) r f fun h r f => ?_
            rw [b113_264]
            refine G.d r f ⟨⟨_, rfl⟩, ?_⟩
            rw [if_neg (by omega)]
          · rw [if_neg (nI_ge (by omega) (by omega))]
            have A : ∀ h t, RepC h B σ → Fr h0 h B (B + 338) → G B h0 (QD σ k) (sm_E PP X 113 254 [] [.int t, .ref B] h) := fun h t r f => by
              rw [b113_254]
              refine G.v (m58 r t) r f fun h r f => ?_
              rw [b113_257, b113_264]
              exact G.d r f (QD_y (by omega) (did_totals hw _))
            by_cases c4 : x4 = 0
            · rw [if_pos c4]
              split
              · exact A h _ r f
              · refine G.s (k108 r _ (n := 1800) (by omega) (by omega)) f fun h r f => ?_
                exact A h _ r f
            · rw [if_neg c4]
              exact A h _ r f
    · rw [if_neg (nI_ge (by omega) (by omega))]
      split
      · exact w113_170 (by omega) hw _ _ _ _ r f
      · split
        · refine G.s (k108 r _ (n := 10) (by omega) (by omega)) f fun h r f => ?_
          rw [b113_154]
          exact w113_170 (by omega) hw _ _ _ _ r f
        · refine G.s (k108 r _ (n := 26) (by omega) (by omega)) f fun h r f => ?_
          rw [b113_169]
          exact w113_170 (by omega) hw _ _ _ _ r f
  · rw [if_neg (nI_ge (by omega) (by omega))]
    refine G.v (m52 r x5 x6 s0) r f fun h r f => ?_
    rw [b113_107, b113_264]
    exact G.d r f (QD_y (by omega) (did_wears hw _ _ _))
theorem w113_58 {k : Nat} (hk : k < 16) (hw : WS σ.2.1) {h : smH} (x1 x2 x4 x5 s0 : Int32) (r : RepC h B σ) (f : Fr h0 h B (B + 338)) : G B h0 (QD σ k) (sm_E PP X 113 58 [(0, .ref B), (1, .int x1), (2, .int x2), (3, .int (nI k)), (4, .int x4), (5, .int x5)] [.int s0] h) := by
  rw [b113_58]
  split
  · split
    · rw [b113_86]
      refine G.s (k108 r _ (n := 3) (by omega) (by omega)) f fun h r f => ?_
      exact w113_89 hk hw _ _ _ _ _ _ r f
    · rw [b113_86]
      refine G.s (k108 r _ (n := 24) (by omega) (by omega)) f fun h r f => ?_
      exact w113_89 hk hw _ _ _ _ _ _ r f
  · exact w113_89 hk hw _ _ _ _ _ _ r f
theorem w113_38 {k : Nat} (hk : k < 16) (hw : WS σ.2.1) {h : smH} (x1 x2 x4 s0 : Int32) (r : RepC h B σ) (f : Fr h0 h B (B + 338)) : G B h0 (QD σ k) (sm_E PP X 113 38 [(0, .ref B), (1, .int x1), (2, .int x2), (3, .int (nI k)), (4, .int x4)] [.int s0] h) := by
  rw [b113_38]
  split <;> exact w113_58 hk hw _ _ _ _ _ r f
theorem w113_21 {k : Nat} (hk : k < 16) (hw : WS σ.2.1) {h : smH} (x1 x2 s0 : Int32) (r : RepC h B σ) (f : Fr h0 h B (B + 338)) : G B h0 (QD σ k) (sm_E PP X 113 21 [(0, .ref B), (1, .int x1), (2, .int x2), (3, .int (nI k))] [.int s0] h) := by
  rw [b113_21]
  split
  · refine G.s (k108 r _ (n := 6) (by omega) (by omega)) f fun h r f => ?_
    exact w113_38 hk hw _ _ _ _ r f
  · exact w113_38 hk hw _ _ _ _ r f
end W113
theorem m113 {X : smX} {h : smH} {B : Nat} {σ : St} (r : RepC h B σ) (hw : WS σ.2.1) (x y : Int32) : G B h (QD σ (lo x 16)) (sm_C PP X 113 [.ref B, .int x, .int y] h) := by
  rw [c113, b113_0]
  refine G.s (k108 r x (n := 16) (by omega) (by omega)) Fr.rf fun h r f => ?_
  rw [b113_6]
  split <;> exact w113_21 (lo_lt (by omega)) hw _ _ _ r f
