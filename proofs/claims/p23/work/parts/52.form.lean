/-! the form of ENTRIES: signs of WORDS and FIGURES, never none -/
def okC (c : Nat) : Prop := c = 63 ∨ c = 32 ∨ (97 ≤ c ∧ c ≤ 122)
def okD (c : Nat) : Prop := c = 63 ∨ (48 ≤ c ∧ c ≤ 57)
def WE (p : List Nat × List Nat) : Prop := 0 < p.1.length ∧ 0 < p.2.length ∧ (∀ j, j < p.1.length → okC (nA p.1 j)) ∧ ∀ j, j < p.2.length → okD (nA p.2 j)
def WS (s : Sh) : Prop := ∀ e, e < s.1.length → WE (en s e)
def WT (σ : St) : Prop := WS σ.2.1 ∧ ∀ s, s ∈ σ.2.2.1 → WS s
theorem WS_app {s : Sh} {p : List Nat × List Nat} (h : WS s) (hp : WE p) : WS (s.1 ++ [p], s.2) := by
  intro e he
  have he' : e < s.1.length + 1 := by simpa using he
  show WE (en (s.1 ++ [p], s.2.1, s.2.2) e)
  rw [en_app]
  by_cases c : e < s.1.length
  · rw [if_pos c]; exact h e c
  · rw [if_neg c, if_pos (by omega)]; exact hp
theorem WS_erase {s : Sh} {x : Nat} (h : WS s) (hx : x < s.1.length) : WS (s.1.eraseIdx x, s.2) := by
  intro e he
  have he' : e < s.1.length - 1 := by
    have : (s.1.eraseIdx x).length = s.1.length - 1 := by rw [List.length_eraseIdx, if_pos hx]
    rw [← this]; exact he
  show WE (en (s.1.eraseIdx x, s.2.1, s.2.2) e)
  rw [en_erase]
  split
  · exact h e (by omega)
  · exact h (e + 1) (by omega)
theorem en_setR {s : Sh} {e f p c j : Nat} (he : e < s.1.length) : en (setR s e f p c) j = if j = e then (if f = 0 then ((en s e).1.set p c, (en s e).2) else ((en s e).1, (en s e).2.set p c)) else en s j := by
  show en (s.1.set e _, s.2.1, s.2.2) j = _
  rw [en_set he]
theorem setR_len {s : Sh} {e f p c : Nat} : (setR s e f p c).1.length = s.1.length := List.length_set
theorem WS_setR {s : Sh} {e f p c : Nat} (h : WS s) (he : e < s.1.length) (h0 : f = 0 → okC c) (h1 : f ≠ 0 → okD c) : WS (setR s e f p c) := by
  intro j hj
  rw [setR_len] at hj
  rw [en_setR he]
  by_cases q : j = e
  · rw [if_pos q]
    obtain ⟨a, b, d, g⟩ := h e he
    by_cases z : f = 0
    · rw [if_pos z]
      refine ⟨by rw [List.length_set]; exact a, b, fun j hj => ?_, g⟩
      rw [List.length_set] at hj
      by_cases y : p < (en s e).1.length
      · rw [nA_set y]
        split
        · exact h0 z
        · exact d j hj
      · rw [List.set_eq_of_length_le (by omega)]
        exact d j hj
    · rw [if_neg z]
      refine ⟨a, by rw [List.length_set]; exact b, d, fun j hj => ?_⟩
      rw [List.length_set] at hj
      by_cases y : p < (en s e).2.length
      · rw [nA_set y]
        split
        · exact h1 z
        · exact g j hj
      · rw [List.set_eq_of_length_le (by omega)]
        exact g j hj
  · rw [if_neg q]
    exact h j hj
theorem okW_c {ws : List Nat} {k : Nat} (h : okW ws k = true) (h1 : nA ws k ≠ 61) : okC (nA ws k) := by
  unfold okW at h
  rw [if_neg h1] at h
  unfold okC
  split at h
  · split at h
    · omega
    · have := of_decide_eq_true h
      omega
  · cases h
theorem flt_wl {ws : List Nat} : ∀ (r k : Nat), flt ws r k none = none → ∀ j, k ≤ j → j < k + r → (∀ i, k ≤ i → i ≤ j → nA ws i ≠ 61) → okC (nA ws j) := by
  intro r
  induction r with
  | zero => intro k h j a b; omega
  | succ r ih =>
    intro k h j a b c
    unfold flt at h
    cases ho : okW ws k with
    | false => rw [ho] at h; cases h
    | true =>
      rw [ho, cond_true, if_neg (c k (by omega) a)] at h
      by_cases q : j = k
      · rw [q]; exact okW_c ho (c k (by omega) (by omega))
      · exact ih (k + 1) h j (by omega) (by omega) (fun i x y => c i (by omega) y)
theorem WE_enT {ws : List Nat} (h : flt ws ws.length 0 none = none) : WE (enT ws) := by
  obtain ⟨q, q1, q2, q3, q4, q5, q6, q7, q8⟩ := flt_ok h
  unfold enT
  rw [q1]
  have l1 : ((ws.drop 0).take (q - 0)).length = q := by
    rw [List.length_take, List.length_drop]; omega
  have l2 : ((ws.drop (q + 1)).take (ws.length - (q + 1))).length = ws.length - (q + 1) := by
    rw [List.length_take, List.length_drop]; omega
  refine ⟨by rw [l1]; exact q3, by rw [l2]; omega, fun j hj => ?_, fun j hj => ?_⟩
  · rw [l1] at hj
    rw [nA_take (by omega), Nat.zero_add]
    exact flt_wl _ 0 h j (by omega) (by omega) (fun i _ y => q5 i (by omega))
  · rw [l2] at hj
    rw [nA_take hj]
    exact q8 _ (by omega) (by omega)
/-! what was done: nothing, or one more that may be undone -/
def Did (σ σ' : St) : Prop := σ' = σ ∨ ∃ s, WS s ∧ σ' = chg σ s
theorem did_drops {σ : St} (h : WS σ.2.1) (x : Int32) : Did σ (opDrops σ x).2 := by
  unfold opDrops
  split
  · rename_i c
    exact Or.inr ⟨_, WS_erase h (by omega), rfl⟩
  · exact Or.inl rfl
theorem did_wears {σ : St} (h : WS σ.2.1) (x y z : Int32) : Did σ (opWears σ x y z).2 := by
  unfold opWears
  split
  · rename_i c
    have c' := of_decide_eq_true c
    split
    · split
      · exact Or.inl rfl
      · exact Or.inr ⟨_, WS_setR h (by omega) (fun _ => Or.inl rfl) (fun _ => Or.inl rfl), rfl⟩
    · exact Or.inl rfl
  · exact Or.inl rfl
theorem did_makes {σ : St} (h : WS σ.2.1) (x y z c : Int32) : Did σ (opMakes σ x y z c).2 := by
  unfold opMakes
  split
  · rename_i c1
    have c1' := of_decide_eq_true c1
    split
    · rename_i c2
      have c2' := of_decide_eq_true c2.2
      split
      · refine Or.inr ⟨_, WS_setR h (by omega) (fun q => ?_) (fun q => ?_), rfl⟩
        · exact Or.inr (Or.inr (by omega))
        · exact Or.inr (by omega)
      · exact Or.inl rfl
    · exact Or.inl rfl
  · exact Or.inl rfl
theorem did_slacks {σ : St} (h : WS σ.2.1) (x : Int32) : Did σ (opSlacks σ x).2 := by
  unfold opSlacks
  split
  · split
    · exact Or.inl rfl
    · exact Or.inr ⟨(σ.2.1.1, x.toInt.toNat, σ.2.1.2.2), fun e he => h e he, rfl⟩
  · exact Or.inl rfl
theorem did_totals {σ : St} (h : WS σ.2.1) (x : Int32) : Did σ (opTotals σ x).2 := by
  unfold opTotals
  split
  · rename_i o _
    split
    · exact Or.inl rfl
    · exact Or.inr ⟨(σ.2.1.1, σ.2.1.2.1, o), fun e he => h e he, rfl⟩
  · exact Or.inl rfl
/-! what is worn takes no number away, nor does more SLACK -/
theorem dwS_w {ws ws2 nd : List Nat} (hw : ∀ j, nA ws2 j = nA ws j ∨ (nA ws2 j = 63 ∧ nA ws j ≠ 32)) : ∀ (r p d o d2 o2 x y : Nat), o2 ≤ o → dwS ws nd r p d o = some (x, y) → ∃ x2 y2, dwS ws2 nd r p d2 o2 = some (x2, y2) ∧ y2 ≤ y := by
  intro r
  induction r with
  | zero =>
    intro p d o d2 o2 x y ho h
    cases h
    exact ⟨d2, o2, rfl, ho⟩
  | succ r ih =>
    intro p d o d2 o2 x y ho h
    unfold dwS at h ⊢
    split at h
    · rename_i c
      rcases hw p with q | ⟨q1, q2⟩
      · rw [q, if_pos c]
        split at h
        · rename_i c2
          rw [if_pos c2]
          exact ih _ _ _ _ _ _ _ ho h
        · rename_i c2
          rw [if_neg c2]
          split at h
          · rename_i c3
            rw [if_pos c3]
            exact ih _ _ _ _ _ _ _ ho h
          · rename_i c3
            rw [if_neg c3]
            exact ih _ _ _ _ _ _ _ (by omega) h
      · rw [q1, if_pos (show (63 : Nat) = 32 ↔ nA nd p = 32 from ⟨fun z => by omega, fun z => absurd (c.mpr z) q2⟩), if_pos rfl]
        split at h
        · exact ih _ _ _ _ _ _ _ ho h
        · split at h
          · exact ih _ _ _ _ _ _ _ ho h
          · exact ih _ _ _ _ _ _ _ (by omega) h
    · cases h
theorem dW_w {ws ws2 : List Nat} {sl sl2 n a : Nat} (hl : ws2.length = ws.length) (hw : ∀ j, nA ws2 j = nA ws j ∨ (nA ws2 j = 63 ∧ nA ws j ≠ 32)) (hs : sl ≤ sl2) (h : dW ws sl n = some a) : ∃ b, dW ws2 sl2 n = some b := by
  unfold dW at h ⊢
  rw [hl]
  split at h
  · rename_i c
    rw [if_pos c]
    split at h
    · cases h
    · rename_i d o e
      split at h
      · obtain ⟨x2, y2, e2, le⟩ := dwS_w hw _ _ _ _ 0 0 _ _ (Nat.le_refl _) e
        rw [e2]
        simp only
        rw [if_pos (by omega)]
        exact ⟨_, rfl⟩
      · cases h
  · cases h
theorem dfS_w {fs fs2 : List Nat} (hw : ∀ j, nA fs2 j = nA fs j ∨ nA fs2 j = 63) : ∀ (p l d d2 x : Nat), dfS fs p l d = some x → ∃ y, dfS fs2 p l d2 = some y := by
  intro p
  induction p with
  | zero => intro l d d2 x h; exact ⟨_, rfl⟩
  | succ p ih =>
    intro l d d2 x h
    unfold dfS at h ⊢
    rcases hw p with q | q
    · rw [q]
      split at h
      · rename_i c; rw [if_pos c]; exact ih _ _ _ _ h
      · rename_i c
        rw [if_neg c]
        split at h
        · rename_i c2; rw [if_pos c2]; exact ih _ _ _ _ h
        · rename_i c2
          rw [if_neg c2]
          split at h
          · rename_i c3; rw [if_pos c3]; exact ih _ _ _ _ h
          · cases h
    · rw [q, if_pos rfl]
      split at h
      · exact ih _ _ _ _ h
      · split at h
        · exact ih _ _ _ _ h
        · split at h
          · exact ih _ _ _ _ h
          · cases h
theorem dF_w {fs fs2 : List Nat} {n a : Nat} (hl : fs2.length = fs.length) (hw : ∀ j, nA fs2 j = nA fs j ∨ nA fs2 j = 63) (h : dF fs n = some a) : ∃ b, dF fs2 n = some b := by
  unfold dF at h ⊢
  rw [hl]
  split at h
  · rename_i c
    rw [if_pos c]
    exact dfS_w hw _ _ _ _ _ h
  · cases h
theorem nA_wear {ws : List Nat} {p : Nat} (hp : nA ws p ≠ 32) : ∀ j, nA (ws.set p 63) j = nA ws j ∨ (nA (ws.set p 63) j = 63 ∧ nA ws j ≠ 32) := by
  intro j
  by_cases c : p < ws.length
  · rw [nA_set c]
    by_cases q : j = p
    · rw [if_pos q]; exact Or.inr ⟨rfl, by rw [q]; exact hp⟩
    · rw [if_neg q]; exact Or.inl rfl
  · rw [List.set_eq_of_length_le (by omega)]; exact Or.inl rfl
theorem ag_grow {s s2 : Sh} {e : Nat} (h1 : ∀ n a, dW (en s e).1 s.2.1 n = some a → ∃ b, dW (en s2 e).1 s2.2.1 n = some b) (h2 : ∀ n a, dF (en s e).2 n = some a → ∃ b, dF (en s2 e).2 n = some b) : (agE s e).1.length ≤ (agE s2 e).1.length ∧ (agE s e).2.1 ≤ (agE s2 e).2.1 ∧ (agE s e).2.2 ≤ (agE s2 e).2.2 :=
  ⟨agl_grow h1 h2 1000 0, cnt_up h1 1000 0, cnt_up h2 1000 0⟩
theorem ag_wear {s : Sh} {e f p : Nat} (he : e < s.1.length) (hp : nA (rowF s e f) p ≠ 32) : (agE s e).1.length ≤ (agE (setR s e f p 63) e).1.length ∧ (agE s e).2.1 ≤ (agE (setR s e f p 63) e).2.1 ∧ (agE s e).2.2 ≤ (agE (setR s e f p 63) e).2.2 := by
  unfold rowF at hp
  refine ag_grow (fun n a h => ?_) (fun n a h => ?_)
  · rw [en_setR he, if_pos rfl]
    by_cases z : f = 0
    · rw [if_pos z] at hp ⊢
      exact dW_w (List.length_set) (nA_wear hp) (Nat.le_refl _) h
    · rw [if_neg z]
      exact ⟨a, h⟩
  · rw [en_setR he, if_pos rfl]
    by_cases z : f = 0
    · rw [if_pos z]
      exact ⟨a, h⟩
    · rw [if_neg z] at hp ⊢
      exact dF_w (List.length_set) (fun j => (nA_wear hp j).imp id And.left) h
theorem ag_slack {s : Sh} {e : Nat} : (agE s e).1.length ≤ (agE (s.1, s.2.1 + 1, s.2.2) e).1.length ∧ (agE s e).2.1 ≤ (agE (s.1, s.2.1 + 1, s.2.2) e).2.1 := by
  obtain ⟨a, b, -⟩ := ag_grow (s := s) (s2 := (s.1, s.2.1 + 1, s.2.2)) (e := e) (fun n a h => dW_w rfl (fun j => Or.inl rfl) (Nat.le_succ _) h) (fun n a h => ⟨a, h⟩)
  exact ⟨a, b⟩
theorem set_back {ws : List Nat} {p : Nat} (hp : p < ws.length) : (ws.set p 63).set p (nA ws p) = ws := by
  rw [List.set_set]
  have : nA ws p = ws[p] := by
    unfold nA
    rw [List.getD_eq_getElem?_getD, List.getElem?_eq_getElem hp]
    rfl
  rw [this, List.set_getElem_self]
theorem setR_back {s : Sh} {e f p : Nat} (he : e < s.1.length) (hp : p < (rowF s e f).length) : setR (setR s e f p 63) e f p (nA (rowF s e f) p) = s := by
  have h1 : en (setR s e f p 63) e = if f = 0 then ((en s e).1.set p 63, (en s e).2) else ((en s e).1, (en s e).2.set p 63) := by rw [en_setR he, if_pos rfl]
  have hen : en s e = s.1[e] := by
    unfold en
    rw [List.getD_eq_getElem?_getD, List.getElem?_eq_getElem he]
    rfl
  unfold rowF at hp ⊢
  have h2 : (setR (setR s e f p 63) e f p (nA (if f = 0 then (en s e).1 else (en s e).2) p)).1 = s.1 := by
    show (s.1.set e _).set e _ = s.1
    rw [List.set_set]
    by_cases z : f = 0
    · rw [if_pos z, h1, if_pos z]
      simp only
      rw [if_pos z] at hp ⊢
      rw [set_back hp]
      show s.1.set e (en s e) = s.1
      rw [hen, List.set_getElem_self]
    · rw [if_neg z, h1, if_neg z]
      simp only
      rw [if_neg z] at hp ⊢
      rw [set_back hp]
      show s.1.set e (en s e) = s.1
      rw [hen, List.set_getElem_self]
  exact Prod.ext h2 rfl
theorem row_setR {s : Sh} {e f p c : Nat} (he : e < s.1.length) : rowF (setR s e f p c) e f = (rowF s e f).set p c := by
  unfold rowF
  rw [en_setR he, if_pos rfl]
  by_cases z : f = 0
  · rw [if_pos z, if_pos z, if_pos z]
  · rw [if_neg z, if_neg z, if_neg z]
