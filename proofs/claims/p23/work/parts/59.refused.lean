/-! the law's refused(o, x, y): all that is refused changes nothing -/
theorem ior_no {x : Int32} {c : Nat} (hc : c < 2 ^ 31) {n : Nat} (hn : n ≤ c) : ¬ (0 ≤ (x ||| nI c).toInt ∧ (x ||| nI c).toInt < n) := by
  have := ior_ge x hc
  omega
theorem neg1_i : (-nI 1).toInt = -1 := nI_neg (by omega)
theorem neg2_i : (-nI 2).toInt = -2 := nI_neg (by omega)
section BAD
variable {X : smX} {h : smH} {B : Nat} {σ : St}
theorem b50r (r : RepC h B σ) : Ct X 50 [.ref B, .int (nI σ.2.1.1.length)] h B (.int (-nI 1)) σ := by
  have h6 := r.h6
  have c := m50 (X := X) r (nI σ.2.1.1.length)
  unfold opDrops at c
  rw [if_neg (by rw [nI_toInt (by omega)]; omega)] at c
  exact c
theorem b52r (r : RepC h B σ) (x y z : Int32) (hv : ¬ (0 ≤ x.toInt ∧ x.toInt < σ.2.1.1.length ∧ 0 ≤ y.toInt ∧ y.toInt ≤ 1)) : Ct X 52 [.ref B, .int x, .int y, .int z] h B (.int (-nI 1)) σ := by
  have c := m52 (X := X) r x y z
  unfold opWears at c
  rw [vR_f hv, if_neg (by decide)] at c
  exact c
theorem b56r (r : RepC h B σ) (x y z k : Int32) (hv : ¬ (0 ≤ x.toInt ∧ x.toInt < σ.2.1.1.length ∧ 0 ≤ y.toInt ∧ y.toInt ≤ 1) ∨ okS y.toInt.toNat k = false) : Ct X 56 [.ref B, .int x, .int y, .int z, .int k] h B (.int (-nI 1)) σ := by
  have c := m56 (X := X) r x y z k
  unfold opMakes at c
  rcases hv with hv | hv
  · rw [vR_f hv, if_neg (by decide)] at c
    exact c
  · by_cases q : vR σ.2.1 x y = true
    · rw [if_pos q, if_neg (fun z => by rw [hv] at z; exact absurd z.2 (by decide))] at c
      exact c
    · rw [if_neg q] at c
      exact c
theorem b57r (r : RepC h B σ) (x : Int32) (hv : ¬ (0 ≤ x.toInt ∧ x.toInt ≤ 2)) : Ct X 57 [.ref B, .int x] h B (.int (-nI 1)) σ := by
  have c := m57 (X := X) r x
  unfold opSlacks at c
  rw [if_neg hv] at c
  exact c
theorem b57s (r : RepC h B σ) : Ct X 57 [.ref B, .int (nI σ.2.1.2.1)] h B (.int (-nI 2)) σ := by
  have hb := r.sb.2.1
  have c := m57 (X := X) r (nI σ.2.1.2.1)
  unfold opSlacks at c
  rw [if_pos (by rw [nI_toInt (by omega)]; omega), if_pos (nTN (by omega))] at c
  exact c
theorem b58r (r : RepC h B σ) (x : Int32) (hv : totO x = none) : Ct X 58 [.ref B, .int x] h B (.int (-nI 1)) σ := by
  have c := m58 (X := X) r x
  unfold opTotals at c
  rw [hv] at c
  exact c
theorem totO_oI {o : Option Nat} (h : ∀ t, o = some t → t ≤ 9999) : totO (oI o) = some o := by
  unfold totO
  cases o with
  | none => rw [oIn, if_pos rfl]
  | some t =>
    have ht := h t rfl
    rw [oIs, if_neg (neg9_ne (show t < 2 ^ 30 by omega)), if_pos (by rw [nI_toInt (by omega)]; omega), nTN (by omega)]
theorem b58s (r : RepC h B σ) : Ct X 58 [.ref B, .int (oI σ.2.1.2.2)] h B (.int (-nI 2)) σ := by
  have c := m58 (X := X) r (oI σ.2.1.2.2)
  unfold opTotals at c
  rw [totO_oI r.sb.2.2] at c
  simp only [if_true] at c
  exact c
theorem b71r (r : RepC h B σ) (x : Int32) : Ct X 71 [.ref B, .int (nI 0), .int (x ||| nI 8)] h B (.int (-nI 1)) σ := by
  have c := m71 (X := X) r (nI 0) (x ||| nI 8)
  have e : ∀ k, k < 8 → ¬ x ||| nI 8 = nI k := fun k hk q => by
    have := ior_ge x (c := 8) (by omega)
    rw [q, nI_toInt (by omega)] at this
    omega
  unfold qEntry at c
  by_cases q : vN σ.2.1.1.length (nI 0) = true
  · rw [if_pos q] at c
    unfold qEn at c
    rw [if_neg (e 0 (by omega)), if_neg (e 1 (by omega)), if_neg (e 2 (by omega)), if_neg (e 3 (by omega)), if_neg (e 4 (by omega)), if_neg (e 5 (by omega))] at c
    exact c
  · rw [if_neg q] at c
    exact c
theorem vR_p {s : Sh} {x y : Int32} (q : vR s x y = true) : 0 ≤ x.toInt ∧ x.toInt < s.1.length ∧ 0 ≤ y.toInt ∧ y.toInt ≤ 1 := of_decide_eq_true q
theorem b72r (r : RepC h B σ) : Ct X 72 [.ref B, .int (nI 0), .int (nI 0), .int (nI 31)] h B (.int (-nI 1)) σ := by
  have c := m72 (X := X) r (nI 0) (nI 0) (nI 31)
  unfold qSign at c
  by_cases q : vR σ.2.1 (nI 0) (nI 0) = true
  · have q2 := vR_p q
    rw [nI_toInt (by omega)] at q2
    have hl := (r.row (e := (nI 0).toInt.toNat) (f := (nI 0).toInt.toNat) (by rw [nTN (by omega)]; omega)).1
    rw [if_pos q, if_neg (fun z => by
      have := of_decide_eq_true z
      rw [nI_toInt (show 31 < 2 ^ 31 by omega)] at this
      omega)] at c
    exact ⟨h, c, r, Fr.rf⟩
  · rw [if_neg q] at c
    exact ⟨h, c, r, Fr.rf⟩
theorem b73r (r : RepC h B σ) (y : Int32) : Ct X 73 [.ref B, .int (nI 0), .int (y ||| nI 1024), .int (nI 0)] h B (.int (-nI 1)) σ := by
  have c := m73 (X := X) r (nI 0) (y ||| nI 1024) (nI 0)
  unfold qDoubt at c
  rw [if_neg (show ¬ vN 1000 (y ||| nI 1024) = true by rw [vN_f (ior_no (by omega) (by omega))]; decide)] at c
  split at c <;> exact ⟨h, c, r, Fr.rf⟩
theorem b78r (r : RepC h B σ) : Ct X 78 [.ref B, .int (nI 0), .int (-nI 1), .int (nI 0)] h B (.int (-nI 1)) σ := by
  have c := m78 (X := X) r (nI 0) (-nI 1) (nI 0)
  unfold qRanked at c
  rw [if_neg (show ¬ (0 : Int) ≤ (-nI 1).toInt by rw [neg1_i]; omega)] at c
  split at c <;> exact c
theorem b79r (r : RepC h B σ) (x : Int32) : Ct X 79 [.ref B, .int (x ||| nI 1024), .int (nI 0)] h B (.int (-nI 1)) σ := by
  have c := m79 (X := X) r (x ||| nI 1024) (nI 0)
  unfold qWord at c
  rw [if_neg (show ¬ vN 1000 (x ||| nI 1024) = true by rw [vN_f (ior_no (by omega) (by omega))]; decide)] at c
  exact ⟨h, c, r, Fr.rf⟩
theorem b79s (r : RepC h B σ) : Ct X 79 [.ref B, .int (nI 0), .int (-nI 2)] h B (.int (-nI 1)) σ := by
  have c := m79 (X := X) r (nI 0) (-nI 2)
  unfold qWord at c
  rw [vN_t (show 0 < 1000 by omega) (by omega), if_pos rfl, if_neg (show ¬ (-nI 2 : Int32) = -nI 1 by decide), if_neg (show ¬ (0 : Int) ≤ (-nI 2).toInt by rw [neg2_i]; omega)] at c
  exact ⟨h, c, r, Fr.rf⟩
theorem b91r (r : RepC h B σ) : Ct X 91 [.ref B, .int (nI 6)] h B (.int (-nI 1)) σ := by
  have h6 := r.h6
  have c := m91 (X := X) r (nI 6)
  unfold qLeast at c
  rw [if_neg (by decide), vN_f (by rw [nI_toInt (by omega)]; omega), if_neg (by decide)] at c
  exact c
theorem b98r (r : RepC h B σ) : Ct X 98 [.ref B, .int (-nI 1)] h B (.int (-nI 1)) σ := by
  have c := m98 (X := X) r (-nI 1)
  unfold qSure at c
  rw [vN_f (by rw [neg1_i]; omega), if_neg (by decide)] at c
  exact c
theorem b101r (r : RepC h B σ) : Ct X 101 [.ref B, .int (nI σ.2.1.1.length)] h B (.int (-nI 1)) σ := by
  have h6 := r.h6
  have c := m101 (X := X) r (nI σ.2.1.1.length)
  unfold qLook at c
  rw [vN_f (by rw [nI_toInt (by omega)]; omega), if_neg (by decide)] at c
  exact c
theorem b102r (r : RepC h B σ) (y : Int32) : Ct X 102 [.ref B, .int (y ||| nI 2)] h B (.int (-nI 1)) σ := by
  have c := m102 (X := X) r (y ||| nI 2)
  unfold opKeep at c
  rw [vN_f (ior_no (by omega) (by omega)), if_neg (by decide)] at c
  exact c
theorem b103r (r : RepC h B σ) : Ct X 103 [.ref B, .int (nI 2)] h B (.int (-nI 1)) σ := by
  have c := m103 (X := X) r (nI 2)
  unfold opBack at c
  rw [vN_f (by rw [nI_toInt (by omega)]; omega), if_neg (by decide)] at c
  exact c
theorem b105r (r : RepC h B σ) : Ct X 105 [.ref B, .int (nI 7)] h B (.int (-nI 1)) σ := by
  have c := m105 (X := X) r (nI 7)
  unfold qCount at c
  rw [if_neg (by decide), if_neg (by decide), if_neg (by decide), if_neg (by decide), if_neg (by decide), if_neg (by decide), if_neg (by decide)] at c
  exact c
theorem b28r (r : RepC h B σ) (x : Int32) : Ct X 28 [.ref B, .int (x ||| nI 256)] h B (.int (-nI 1)) σ := by
  have c := m28 (X := X) r (x ||| nI 256)
  unfold opType at c
  rw [if_neg (fun q => ior_no (x := x) (c := 256) (by omega) (n := 256) (by omega) ⟨q.1, by omega⟩)] at c
  exact c
end BAD
set_option maxHeartbeats 2000000 in
theorem m114 {X : smX} {h0 : smH} {B : Nat} {σ : St} (r : RepC h0 B σ) (x y : Int32) : Ct X 114 [.ref B, .int x, .int y] h0 B (.int (nI 1)) σ := by
  have h6 := r.h6
  refine G.ct ?_
  rw [c114, b114_0]
  refine G.s (m109 r) Fr.rf fun h r f => ?_
  rw [b114_4]
  refine G.v (k105_6 r) r f fun h r f => ?_
  rw [b114_11]
  refine G.v (k105_0 r) r f fun h r f => ?_
  rw [b114_19]
  refine G.v (b50r r) r f fun h r f => ?_
  rw [b114_22, if_pos rfl]
  refine G.v (b52r r _ _ _ (by rw [nI_toInt (show 6 < 2 ^ 31 by omega)]; omega)) r f fun h r f => ?_
  rw [b114_34, if_pos rfl]
  refine G.v (b52r r _ _ _ (fun q => ior_no (x := x) (c := 2) (by omega) (n := 2) (by omega) ⟨q.2.2.1, by omega⟩)) r f fun h r f => ?_
  rw [b114_47, if_pos rfl]
  refine G.v (b56r r _ _ _ _ (Or.inl (by rw [neg1_i]; omega))) r f fun h r f => ?_
  rw [b114_60, if_pos rfl]
  refine G.v (b56r r _ _ _ _ (Or.inr (by
    rw [nTN (by omega)]
    refine decide_eq_false fun q => ?_
    have := ior_ge y (c := 128) (by omega)
    omega))) r f fun h r f => ?_
  rw [b114_76, if_pos rfl]
  refine G.v (b56r r _ _ _ _ (Or.inr (by decide +kernel))) r f fun h r f => ?_
  rw [b114_89, if_pos rfl]
  refine G.v (b57r r _ (fun q => ior_no (x := x) (c := 4) (by omega) (n := 4) (by omega) ⟨q.1, by omega⟩)) r f fun h r f => ?_
  rw [b114_100, if_pos rfl]
  refine G.v (k105_2 r) r f fun h r f => ?_
  rw [b114_110]
  refine G.v (b57s r) r f fun h r f => ?_
  rw [b114_113, if_pos rfl]
  have A : ∀ (t : Int32), totO t = none → G B h0 (fun w s => w = some (Value.int (nI 1)) ∧ s = σ) (sm_E PP X 114 132 [(0, .ref B), (1, .int x), (2, .int y), (3, .long (dg σ.2.1)), (5, .int (nI σ.2.2.1.length))] [.int t, .ref B] h) := by
    intro t ht
    rw [b114_132]
    refine G.v (b58r r t ht) r f fun h r f => ?_
    rw [b114_135, if_pos rfl]
    refine G.v (k105_3 r) r f fun h r f => ?_
    rw [b114_145]
    refine G.v (b58s r) r f fun h r f => ?_
    rw [b114_148, if_pos rfl]
    refine G.v (b71r r x) r f fun h r f => ?_
    rw [b114_162, if_pos rfl]
    refine G.v (b72r r) r f fun h r f => ?_
    rw [b114_174, if_pos rfl]
    refine G.v (b73r r y) r f fun h r f => ?_
    rw [b114_189, if_pos rfl]
    refine G.v (b78r r) r f fun h r f => ?_
    rw [b114_200, if_pos rfl]
    refine G.v (b79r r x) r f fun h r f => ?_
    rw [b114_214, if_pos rfl]
    refine G.v (b79s r) r f fun h r f => ?_
    rw [b114_225, if_pos rfl]
    refine G.v (b91r r) r f fun h r f => ?_
    rw [b114_235, if_pos rfl]
    refine G.v (b98r r) r f fun h r f => ?_
    rw [b114_244, if_pos rfl]
    refine G.v (k105_0 r) r f fun h r f => ?_
    rw [b114_254]
    refine G.v (b101r r) r f fun h r f => ?_
    rw [b114_257, if_pos rfl]
    refine G.v (b102r r y) r f fun h r f => ?_
    rw [b114_268, if_pos rfl]
    refine G.v (b103r r) r f fun h r f => ?_
    rw [b114_277, if_pos rfl]
    refine G.v (b105r r) r f fun h r f => ?_
    rw [b114_287, if_pos rfl]
    refine G.v (b28r r x) r f fun h r f => ?_
    rw [b114_300, if_pos rfl, b114_309, if_neg (by decide)]
    refine G.s (m109 r) f fun h r f => ?_
    rw [b114_320, if_pos (cmp_eq _)]
    refine G.v (k105_6 r) r f fun h r f => ?_
    rw [b114_331, if_pos rfl, b114_341]
    exact G.b r f ⟨rfl, rfl⟩
  by_cases c9 : -nI 9 ≤ y
  · rw [if_pos c9]
    exact A _ (by decide +kernel)
  · rw [if_neg c9]
    refine A _ ?_
    unfold totO
    rw [i_le, nI_neg (by omega)] at c9
    rw [if_neg (fun q => by rw [q, nI_neg (by omega)] at c9; omega), if_neg (by omega)]
