/-! a NUMBER told in words and figures, some of it worn: the text tells an ENTRY that can be that NUMBER -/
def blOk : Nat → List Nat → Bool
  | c, [] => decide (c ≠ 32)
  | c, x :: l => decide (x ≠ 32 ∨ c ≠ 32) && blOk x l
theorem spN_bl : (List.range 1000).all (fun n => blOk 32 (spN n)) = true := by decide +kernel
theorem nA_0 {x : Nat} {l : List Nat} : nA (x :: l) 0 = x := rfl
theorem nA_s {x j : Nat} {l : List Nat} : nA (x :: l) (j + 1) = nA l j := rfl
theorem bl_ok : ∀ (l : List Nat) (c : Nat), blOk c l = true → ∀ j, j < l.length → nA l j = 32 → (j = 0 → c ≠ 32) ∧ (0 < j → nA l (j - 1) ≠ 32) ∧ j + 1 < l.length := by
  intro l
  induction l with
  | nil => intro c _ j hj; exact absurd hj (Nat.not_lt_zero _)
  | cons x l ih =>
    intro c h j hj e
    unfold blOk at h
    rw [Bool.and_eq_true] at h
    have h1 := of_decide_eq_true h.1
    cases j with
    | zero =>
      rw [nA_0] at e
      refine ⟨fun _ => by omega, fun q => by omega, ?_⟩
      cases l with
      | nil =>
        have := of_decide_eq_true (show decide (x ≠ 32) = true from h.2)
        exact absurd e this
      | cons y l => simp
    | succ j =>
      rw [nA_s] at e
      rw [List.length_cons] at hj
      obtain ⟨a, b, d⟩ := ih x h.2 j (by omega) e
      refine ⟨fun q => by omega, fun _ => ?_, by rw [List.length_cons]; omega⟩
      rw [Nat.add_sub_cancel]
      cases j with
      | zero => rw [nA_0]; exact a rfl
      | succ j =>
        rw [nA_s]
        exact b (by omega)
theorem spN_b {n : Nat} (hn : n < 1000) : ∀ j, j < (spN n).length → nA (spN n) j = 32 → 0 < j ∧ nA (spN n) (j - 1) ≠ 32 ∧ j + 1 < (spN n).length := by
  have h := List.all_eq_true.mp spN_bl n (List.mem_range.mpr hn)
  intro j hj e
  obtain ⟨a, b, d⟩ := bl_ok _ _ h j hj e
  have h0 : 0 < j := by
    by_cases z : j = 0
    · exact absurd rfl (a z)
    · omega
  exact ⟨h0, b h0, d⟩
theorem spN_0 {n : Nat} (hn : n < 1000) : 0 < (spN n).length := by
  have h := List.all_eq_true.mp spN_bl n (List.mem_range.mpr hn)
  cases e : spN n with
  | nil => rw [e] at h; cases h
  | cons x l => exact Nat.zero_lt_succ _
/-- as a NUMBER's words, some letters worn -/
def Wk (n k : Nat) (w : List Nat) : Prop := w.length = k ∧ ∀ j, j < k → nA w j = nA (spN n) j ∨ (nA w j = 63 ∧ nA (spN n) j ≠ 32)
theorem dwS_t {ws nd : List Nat} : ∀ (r p d o : Nat), (∀ j, p ≤ j → j < p + r → nA ws j = nA nd j ∨ (nA ws j = 63 ∧ nA nd j ≠ 32)) → ∃ x, dwS ws nd r p d o = some (x, o) := by
  intro r
  induction r with
  | zero => intro p d o h; exact ⟨_, rfl⟩
  | succ r ih =>
    intro p d o h
    have g := ih (p + 1)
    unfold dwS
    rcases h p (by omega) (by omega) with q | ⟨q1, q2⟩
    · rw [q, if_pos Iff.rfl]
      by_cases z : nA nd p = 63
      · rw [if_pos z]; exact g _ _ (fun j a b => h j (by omega) (by omega))
      · rw [if_neg z, if_pos rfl]; exact g _ _ (fun j a b => h j (by omega) (by omega))
    · rw [q1, if_pos (show (63 : Nat) = 32 ↔ nA nd p = 32 from ⟨fun z => by omega, fun z => absurd z q2⟩), if_pos rfl]
      exact g _ _ (fun j a b => h j (by omega) (by omega))
theorem dW_t {n sl : Nat} {w : List Nat} (h : Wk n (spN n).length w) : ∃ a, dW w sl n = some a := by
  obtain ⟨h1, h2⟩ := h
  obtain ⟨x, e⟩ := dwS_t (ws := w) (nd := spN n) w.length 0 0 0 (fun j _ b => h2 j (by omega))
  unfold dW
  rw [if_pos h1, e]
  simp only
  rw [if_pos (Nat.zero_le _)]
  exact ⟨_, rfl⟩
theorem dfS_st {fs : List Nat} {p l : Nat} (h : nA fs p = 63 ∨ nA fs p = 48 + l % 10) (k : ∀ d, ∃ x, dfS fs p (l / 10) d = some x) (d : Nat) : ∃ x, dfS fs (p + 1) l d = some x := by
  unfold dfS
  rcases h with q | q
  · rw [if_pos q]; exact k _
  · by_cases z : nA fs p = 63
    · rw [if_pos z]; exact k _
    · rw [if_neg z]
      split <;> exact k _
/-- as a NUMBER's figures, some worn -/
def Fk (n : Nat) (f : List Nat) : Prop := (∃ x, dF f n = some x) ∧ 0 < f.length ∧ f.length ≤ 3 ∧ ∀ j, j < f.length → okD (nA f j)
def dgt (d q : Nat) : Prop := d = 63 ∨ d = 48 + q
theorem dgt_ok {d q : Nat} (h : dgt d q) (hq : q < 10) : okD d := by unfold dgt at h; unfold okD; omega
theorem Fk_1 {n a : Nat} (hn : n < 10) (h : dgt a n) : Fk n [a] := by
  have g0 : nA [a] 0 = 63 ∨ nA [a] 0 = 48 + n % 10 := by
    show a = 63 ∨ a = 48 + n % 10
    unfold dgt at h
    omega
  refine ⟨?_, by simp, by simp, fun j hj => ?_⟩
  · have e : fl n = 1 := by unfold fl; rw [if_pos hn]
    unfold dF
    rw [if_pos (show [a].length = fl n from e.symm)]
    show ∃ x, dfS [a] (0 + 1) n 0 = some x
    exact dfS_st g0 (fun d => ⟨_, rfl⟩) 0
  · obtain rfl : j = 0 := by simp at hj; omega
    exact dgt_ok h hn
theorem Fk_2 {n a b : Nat} (h1 : 10 ≤ n) (hn : n < 100) (ha : dgt a (n / 10)) (hb : dgt b (n % 10)) : Fk n [a, b] := by
  have g1 : nA [a, b] 1 = 63 ∨ nA [a, b] 1 = 48 + n % 10 := hb
  have g0 : nA [a, b] 0 = 63 ∨ nA [a, b] 0 = 48 + n / 10 % 10 := by
    show a = 63 ∨ a = 48 + n / 10 % 10
    unfold dgt at ha
    omega
  refine ⟨?_, by simp, by simp, fun j hj => ?_⟩
  · have e : fl n = 2 := by unfold fl; rw [if_neg (show ¬ n < 10 by omega), if_pos hn]
    unfold dF
    rw [if_pos (show [a, b].length = fl n from e.symm)]
    show ∃ x, dfS [a, b] (1 + 1) n 0 = some x
    exact dfS_st g1 (fun d => dfS_st (p := 0) g0 (fun d => ⟨_, rfl⟩) d) 0
  · have hj : j < 2 := hj
    match j, hj with
    | 0, _ => exact dgt_ok ha (by omega)
    | 1, _ => exact dgt_ok hb (by omega)
theorem Fk_3 {n a b c : Nat} (h1 : 100 ≤ n) (hn : n < 1000) (ha : dgt a (n / 100)) (hb : dgt b (n % 100 / 10)) (hc : dgt c (n % 100 % 10)) : Fk n [a, b, c] := by
  have g2 : nA [a, b, c] 2 = 63 ∨ nA [a, b, c] 2 = 48 + n % 10 := by
    show c = 63 ∨ c = 48 + n % 10
    unfold dgt at hc
    omega
  have g1 : nA [a, b, c] 1 = 63 ∨ nA [a, b, c] 1 = 48 + n / 10 % 10 := by
    show b = 63 ∨ b = 48 + n / 10 % 10
    unfold dgt at hb
    omega
  have g0 : nA [a, b, c] 0 = 63 ∨ nA [a, b, c] 0 = 48 + n / 10 / 10 % 10 := by
    show a = 63 ∨ a = 48 + n / 10 / 10 % 10
    unfold dgt at ha
    omega
  refine ⟨?_, by simp, by simp, fun j hj => ?_⟩
  · have e : fl n = 3 := by unfold fl; rw [if_neg (show ¬ n < 10 by omega), if_neg (show ¬ n < 100 by omega)]
    unfold dF
    rw [if_pos (show [a, b, c].length = fl n from e.symm)]
    show ∃ x, dfS [a, b, c] (2 + 1) n 0 = some x
    exact dfS_st g2 (fun d => dfS_st (p := 1) g1 (fun d => dfS_st (p := 0) g0 (fun d => ⟨_, rfl⟩) d) d) 0
  · have hj : j < 3 := hj
    match j, hj with
    | 0, _ => exact dgt_ok ha (by omega)
    | 1, _ => exact dgt_ok hb (by omega)
    | 2, _ => exact dgt_ok hc (by omega)
theorem flt_A {ws : List Nat} {q : Nat} (hq : q < ws.length) (h1 : ∀ j, j < q → okW ws j = true ∧ nA ws j ≠ 61) (h2 : okW ws q = true) (h3 : nA ws q = 61) : ∀ (r k : Nat), k + r = ws.length → k ≤ q → flt ws r k none = flt ws (ws.length - (q + 1)) (q + 1) (some q) := by
  intro r
  induction r with
  | zero => intro k a b; omega
  | succ r ih =>
    intro k a b
    unfold flt
    by_cases e : k = q
    · subst e
      rw [h2, cond_true, if_pos h3, show r = ws.length - (k + 1) by omega]
      rw [show ws.length - (k + 1) = r by omega]
      exact flt.eq_def _ _ _ _
    · obtain ⟨x, y⟩ := h1 k (by omega)
      rw [x, cond_true, if_neg y, ih (k + 1) (by omega) (by omega)]
      exact flt.eq_def _ _ _ _
theorem flt_B {ws : List Nat} {q : Nat} (hq : q + 1 < ws.length) (h1 : ∀ j, q < j → j < ws.length → okF (j - q) (nA ws j) = true ∧ nA ws j ≠ 61) : ∀ (r k : Nat), k + r = ws.length → q < k → flt ws r k (some q) = none := by
  intro r
  induction r with
  | zero =>
    intro k a b
    unfold flt
    rw [if_neg (by omega)]
  | succ r ih =>
    intro k a b
    unfold flt
    obtain ⟨x, y⟩ := h1 k b (by omega)
    rw [x, cond_true, if_neg y]
    exact ih (k + 1) (by omega) (by omega)
theorem told_ok {n : Nat} {w f : List Nat} (hn : n < 1000) (hw : Wk n (spN n).length w) (hf : Fk n f) : flt ((w ++ [61]) ++ f) ((w ++ [61]) ++ f).length 0 none = none ∧ enT ((w ++ [61]) ++ f) = (w, f) := by
  obtain ⟨w1, w2⟩ := hw
  obtain ⟨-, f1, f2, f3⟩ := hf
  have h0 := spN_0 hn
  have h31 := spN_len hn
  have len : ((w ++ [61]) ++ f).length = w.length + 1 + f.length := by simp <;> omega
  have a1 : ∀ j, j < w.length → nA ((w ++ [61]) ++ f) j = nA w j := fun j hj => by
    rw [nA_app, if_pos (by simp <;> omega), nA_app, if_pos hj]
  have a2 : nA ((w ++ [61]) ++ f) w.length = 61 := by
    rw [nA_app, if_pos (by simp), nA_app, if_neg (by omega), Nat.sub_self]
    rfl
  have a3 : ∀ j, j < f.length → nA ((w ++ [61]) ++ f) (w.length + 1 + j) = nA f j := fun j hj => by
    rw [nA_app, if_neg (by simp <;> omega)]
    congr 1
    simp
  have lt : ∀ j, j < w.length → nA w j = 32 ∧ nA (spN n) j = 32 ∨ nA w j = 63 ∨ (97 ≤ nA w j ∧ nA w j ≤ 122) := fun j hj => by
    have := spN_let hn (k := j) (by omega)
    rcases w2 j (by omega) with q | ⟨q, -⟩ <;> omega
  have n61 : ∀ j, j < w.length → nA ((w ++ [61]) ++ f) j ≠ 61 := fun j hj => by
    rw [a1 j hj]
    have := lt j hj
    omega
  have ok1 : ∀ j, j < w.length → okW ((w ++ [61]) ++ f) j = true := fun j hj => by
    unfold okW
    rw [if_neg (n61 j hj), if_pos (by omega), a1 j hj]
    rcases lt j hj with ⟨q1, q2⟩ | q
    · rw [if_pos q1]
      obtain ⟨b1, b2, b3⟩ := spN_b hn j (by omega) q2
      refine decide_eq_true ⟨b1, ?_, n61 (j + 1) (by omega)⟩
      rw [a1 (j - 1) (by omega)]
      rcases lt (j - 1) (by omega) with ⟨-, q⟩ | q
      · exact absurd q b2
      · omega
    · rw [if_neg (by omega)]
      exact decide_eq_true q
  have ok2 : okW ((w ++ [61]) ++ f) w.length = true := by
    unfold okW
    rw [if_pos a2]
    exact decide_eq_true (by omega)
  refine ⟨?_, ?_⟩
  · rw [flt_A (q := w.length) (by omega) (fun j hj => ⟨ok1 j hj, n61 j hj⟩) ok2 a2 _ 0 (by omega) (by omega)]
    refine flt_B (by omega) (fun j b c => ?_) _ _ (by omega) (by omega)
    have g := f3 (j - (w.length + 1)) (by omega)
    have e := a3 (j - (w.length + 1)) (by omega)
    rw [show w.length + 1 + (j - (w.length + 1)) = j by omega] at e
    rw [← e] at g
    unfold okD at g
    exact ⟨decide_eq_true ⟨by omega, g⟩, by omega⟩
  · have hq : eqp ((w ++ [61]) ++ f) ((w ++ [61]) ++ f).length 0 = w.length := eqp_at _ 0 _ (by omega) (by omega) a2 (fun j _ b => n61 j b)
    unfold enT
    rw [hq, len]
    refine Prod.ext ?_ ?_
    · show (((w ++ [61]) ++ f).drop 0).take (w.length - 0) = w
      rw [List.drop_zero, Nat.sub_zero, List.append_assoc, List.take_left]
    · show (((w ++ [61]) ++ f).drop (w.length + 1)).take (w.length + 1 + f.length - (w.length + 1)) = f
      rw [show w.length + 1 = (w ++ [61]).length by simp, List.drop_left]
      exact List.take_of_length_le (by simp)
