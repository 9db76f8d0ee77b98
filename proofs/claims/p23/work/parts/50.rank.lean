/-! RANKED: who stands at which rank -/
/-- j is RANKED ahead of i -/
def bfr (l : List (Nat × Nat)) (j i : Nat) : Prop := pD l j < pD l i ∨ (pD l j = pD l i ∧ j < i)
theorem ahd_acc {l : List (Nat × Nat)} {i : Nat} : ∀ r j a : Nat, ahd l i r j a = a + ahd l i r j 0 := by
  intro r
  induction r with
  | zero => intro j a; rfl
  | succ r ih =>
    intro j a
    unfold ahd
    by_cases h : pD l j < pD l i ∨ (pD l j = pD l i ∧ j < i)
    · rw [if_pos h, if_pos h, ih (j + 1) (a + 1), ih (j + 1) (0 + 1)]; omega
    · rw [if_neg h, if_neg h, ih (j + 1) a]
theorem ahd_s {l : List (Nat × Nat)} {i r j : Nat} : ahd l i (r + 1) j 0 = (if pD l j < pD l i ∨ (pD l j = pD l i ∧ j < i) then 1 else 0) + ahd l i r (j + 1) 0 := by
  rw [show ahd l i (r + 1) j 0 = if pD l j < pD l i ∨ (pD l j = pD l i ∧ j < i) then ahd l i r (j + 1) (0 + 1) else ahd l i r (j + 1) 0 from rfl]
  by_cases h : pD l j < pD l i ∨ (pD l j = pD l i ∧ j < i)
  · rw [if_pos h, if_pos h, ahd_acc]
  · rw [if_neg h, if_neg h]; omega
theorem ahd_mono {l : List (Nat × Nat)} {i k : Nat} (h : ∀ j, bfr l j i → bfr l j k) : ∀ r j : Nat, ahd l i r j 0 ≤ ahd l k r j 0 := by
  intro r
  induction r with
  | zero => intro j; exact Nat.le_refl _
  | succ r ih =>
    intro j
    have := ih (j + 1)
    rw [ahd_s, ahd_s]
    by_cases c : pD l j < pD l i ∨ (pD l j = pD l i ∧ j < i)
    · rw [if_pos c, if_pos (show pD l j < pD l k ∨ (pD l j = pD l k ∧ j < k) from h j c)]; omega
    · rw [if_neg c]; split <;> omega
theorem ahd_str {l : List (Nat × Nat)} {i k q : Nat} (h : ∀ j, bfr l j i → bfr l j k) (h1 : ¬ bfr l q i) (h2 : bfr l q k) : ∀ r j : Nat, j ≤ q → q < j + r → ahd l i r j 0 < ahd l k r j 0 := by
  intro r
  induction r with
  | zero => intro j a b; omega
  | succ r ih =>
    intro j a b
    rw [ahd_s, ahd_s]
    by_cases e : j = q
    · subst e
      have := ahd_mono h r (j + 1)
      rw [if_neg (show ¬ (pD l j < pD l i ∨ (pD l j = pD l i ∧ j < i)) from h1), if_pos (show pD l j < pD l k ∨ (pD l j = pD l k ∧ j < k) from h2)]; omega
    · have := ih (j + 1) (by omega) (by omega)
      by_cases c : pD l j < pD l i ∨ (pD l j = pD l i ∧ j < i)
      · rw [if_pos c, if_pos (show pD l j < pD l k ∨ (pD l j = pD l k ∧ j < k) from h j c)]; omega
      · rw [if_neg c]; split <;> omega
theorem bfr_tr {l : List (Nat × Nat)} {i j k : Nat} (h1 : bfr l i j) (h2 : bfr l j k) : bfr l i k := by
  unfold bfr at *
  omega
theorem bfr_ir {l : List (Nat × Nat)} {i : Nat} : ¬ bfr l i i := by unfold bfr; omega
theorem bfr_tt {l : List (Nat × Nat)} {i j : Nat} (h : i ≠ j) : bfr l i j ∨ bfr l j i := by
  unfold bfr
  omega
/-- the rank of the i-th -/
def rnk (l : List (Nat × Nat)) (i : Nat) : Nat := ahd l i l.length 0 0
theorem rnk_lt {l : List (Nat × Nat)} {i j : Nat} (hi : i < l.length) (h : bfr l i j) : rnk l i < rnk l j :=
  ahd_str (fun _ q => bfr_tr q h) bfr_ir h l.length 0 (Nat.zero_le _) (by omega)
theorem ahd_self {l : List (Nat × Nat)} {i : Nat} : ∀ r j : Nat, j ≤ i → i < j + r → ahd l i r j 0 < r := by
  intro r
  induction r with
  | zero => intro j a b; omega
  | succ r ih =>
    intro j a b
    rw [ahd_s]
    by_cases e : j = i
    · subst e
      have := ahd_le (l := l) (i := j) r (j + 1) 0
      rw [if_neg (show ¬ (pD l j < pD l j ∨ (pD l j = pD l j ∧ j < j)) by omega)]; omega
    · have := ih (j + 1) (by omega) (by omega)
      split <;> omega
theorem rnk_n {l : List (Nat × Nat)} {i : Nat} (hi : i < l.length) : rnk l i < l.length := ahd_self l.length 0 (Nat.zero_le _) (by omega)
theorem rnk_inj {l : List (Nat × Nat)} {i j : Nat} (hi : i < l.length) (hj : j < l.length) (h : rnk l i = rnk l j) : i = j := by
  by_cases e : i = j
  · exact e
  · rcases bfr_tt (l := l) e with q | q
    · have := rnk_lt hi q; omega
    · have := rnk_lt hj q; omega
/-- who is one to one below n is all of it -/
theorem pig : ∀ (n : Nat) (f : Nat → Nat), (∀ i, i < n → f i < n) → (∀ i j, i < n → j < n → f i = f j → i = j) → ∀ k, k < n → ∃ i, i < n ∧ f i = k := by
  intro n
  induction n with
  | zero => intro f _ _ k hk; omega
  | succ n ih =>
    intro f h1 h2 k hk
    have hm := h1 n (by omega)
    have g1 : ∀ i, i < n → (if f i = n then f n else f i) < n := fun i hi => by
      have a := h1 i (by omega)
      have b : f i ≠ f n := fun q => by have := h2 i n (by omega) (by omega) q; omega
      split <;> omega
    have g2 : ∀ i j, i < n → j < n → (if f i = n then f n else f i) = (if f j = n then f n else f j) → i = j := fun i j hi hj q => by
      have a : f i ≠ f n := fun q => by have := h2 i n (by omega) (by omega) q; omega
      have b : f j ≠ f n := fun q => by have := h2 j n (by omega) (by omega) q; omega
      apply h2 i j (by omega) (by omega)
      revert q
      split <;> split <;> omega
    by_cases hkn : k < n
    · obtain ⟨i, hi, e⟩ := ih _ g1 g2 k hkn
      by_cases c : f i = n
      · rw [if_pos c] at e; exact ⟨n, by omega, e⟩
      · rw [if_neg c] at e; exact ⟨i, by omega, e⟩
    · obtain rfl : k = n := by omega
      by_cases c : f k = k
      · exact ⟨k, by omega, c⟩
      · obtain ⟨i, hi, e⟩ := ih _ g1 g2 (f k) (by omega)
        by_cases c2 : f i = k
        · exact ⟨i, by omega, c2⟩
        · rw [if_neg c2] at e
          have := h2 i k (by omega) (by omega) e
          omega
theorem ixR_ex {l : List (Nat × Nat)} {k : Nat} : ∀ r i : Nat, (∃ x, i ≤ x ∧ x < i + r ∧ rnk l x = k) → ∃ x, ixR l k r i = some x ∧ i ≤ x ∧ x < i + r ∧ rnk l x = k := by
  intro r
  induction r with
  | zero => intro i ⟨x, a, b, c⟩; omega
  | succ r ih =>
    intro i ⟨x, a, b, c⟩
    unfold ixR
    by_cases e : ahd l i l.length 0 0 = k
    · rw [if_pos e]; exact ⟨i, rfl, by omega, by omega, e⟩
    · rw [if_neg e]
      have : x ≠ i := fun q => e (q ▸ c)
      obtain ⟨y, y1, y2, y3, y4⟩ := ih (i + 1) ⟨x, by omega, by omega, c⟩
      exact ⟨y, y1, by omega, by omega, y4⟩
theorem ixR_no {l : List (Nat × Nat)} {k : Nat} : ∀ r i : Nat, (∀ x, i ≤ x → x < i + r → rnk l x ≠ k) → ixR l k r i = none := by
  intro r
  induction r with
  | zero => intro i h; rfl
  | succ r ih =>
    intro i h
    unfold ixR
    rw [if_neg (show ¬ ahd l i l.length 0 0 = k from h i (by omega) (by omega))]
    exact ih (i + 1) (fun x a b => h x (by omega) (by omega))
/-- the place of the k-th as RANKED -/
def rk (l : List (Nat × Nat)) (k : Nat) : Nat := (ixR l k l.length 0).getD 0
theorem rk_ok {l : List (Nat × Nat)} {k : Nat} (hk : k < l.length) : ixR l k l.length 0 = some (rk l k) ∧ rk l k < l.length ∧ rnk l (rk l k) = k := by
  obtain ⟨x, h1, h2⟩ := pig l.length (rnk l) (fun i hi => rnk_n hi) (fun i j hi hj q => rnk_inj hi hj q) k hk
  obtain ⟨y, y1, y2, y3, y4⟩ := ixR_ex (l := l) (k := k) l.length 0 ⟨x, by omega, by omega, h2⟩
  have e : rk l k = y := by unfold rk; rw [y1]; rfl
  rw [e]
  exact ⟨y1, by omega, y4⟩
theorem rk_no {l : List (Nat × Nat)} {k : Nat} (hk : l.length ≤ k) : ixR l k l.length 0 = none :=
  ixR_no l.length 0 (fun x a b q => by have := rnk_n (l := l) (i := x) (by omega); omega)
theorem rk_up {l : List (Nat × Nat)} {k : Nat} (hk : k + 1 < l.length) : bfr l (rk l k) (rk l (k + 1)) := by
  obtain ⟨-, a1, a2⟩ := rk_ok (l := l) (k := k) (by omega)
  obtain ⟨-, b1, b2⟩ := rk_ok hk
  by_cases e : rk l k = rk l (k + 1)
  · rw [e] at a2; omega
  · rcases bfr_tt (l := l) e with q | q
    · exact q
    · have := rnk_lt b1 q; omega
theorem rk_0 {l : List (Nat × Nat)} : rk l 0 = fmI l := rfl
/-! AGREEING NUMBERS: each can be by both; and all that can be are there -/
theorem agl_mem {ws fs : List Nat} {sl : Nat} : ∀ r n k : Nat, k < (agl ws fs sl r n).length → ∃ a b, dW ws sl (pN (agl ws fs sl r n) k) = some a ∧ dF fs (pN (agl ws fs sl r n) k) = some b ∧ pD (agl ws fs sl r n) k = a + b ∧ n ≤ pN (agl ws fs sl r n) k ∧ pN (agl ws fs sl r n) k < n + r := by
  intro r
  induction r with
  | zero => intro n k hk; exact absurd hk (Nat.not_lt_zero _)
  | succ r ih =>
    intro n k hk
    unfold agl at hk ⊢
    cases e1 : dW ws sl n with
    | none =>
      rw [e1] at hk
      obtain ⟨a, b, h1, h2, h3, h4, h5⟩ := ih (n + 1) k hk
      exact ⟨a, b, h1, h2, h3, by show n ≤ pN (agl ws fs sl r (n + 1)) k; omega, by show pN (agl ws fs sl r (n + 1)) k < _; omega⟩
    | some a =>
      cases e2 : dF fs n with
      | none =>
        rw [e1, e2] at hk
        obtain ⟨a, b, h1, h2, h3, h4, h5⟩ := ih (n + 1) k hk
        exact ⟨a, b, h1, h2, h3, by show n ≤ pN (agl ws fs sl r (n + 1)) k; omega, by show pN (agl ws fs sl r (n + 1)) k < _; omega⟩
      | some b =>
        rw [e1, e2] at hk
        cases k with
        | zero => exact ⟨a, b, e1, e2, rfl, Nat.le_refl _, by show n < _; omega⟩
        | succ k =>
          obtain ⟨a, b, h1, h2, h3, h4, h5⟩ := ih (n + 1) k (by simpa using hk)
          exact ⟨a, b, h1, h2, h3, by show n ≤ pN (agl ws fs sl r (n + 1)) k; omega, by show pN (agl ws fs sl r (n + 1)) k < _; omega⟩
theorem agl_in {ws fs : List Nat} {sl m a b : Nat} (h1 : dW ws sl m = some a) (h2 : dF fs m = some b) : ∀ r n : Nat, n ≤ m → m < n + r → 0 < (agl ws fs sl r n).length := by
  intro r
  induction r with
  | zero => intro n x y; omega
  | succ r ih =>
    intro n x y
    unfold agl
    by_cases e : n = m
    · subst e
      rw [h1, h2]
      exact Nat.zero_lt_succ _
    · have := ih (n + 1) (by omega) (by omega)
      split
      · exact Nat.zero_lt_succ _
      · exact this
theorem agl_cntW {ws fs : List Nat} {sl : Nat} : ∀ r n : Nat, (agl ws fs sl r n).length ≤ cnt (dW ws sl) r n := by
  intro r
  induction r with
  | zero => intro n; exact Nat.le_refl _
  | succ r ih =>
    intro n
    have := ih (n + 1)
    unfold agl cnt
    cases e1 : dW ws sl n with
    | none => simp only; omega
    | some a =>
      cases e2 : dF fs n with
      | none => simp only; omega
      | some b => simp only [List.length_cons]; omega
theorem agl_cntF {ws fs : List Nat} {sl : Nat} : ∀ r n : Nat, (agl ws fs sl r n).length ≤ cnt (dF fs) r n := by
  intro r
  induction r with
  | zero => intro n; exact Nat.le_refl _
  | succ r ih =>
    intro n
    have := ih (n + 1)
    unfold agl cnt
    cases e1 : dW ws sl n with
    | none => cases e2 : dF fs n <;> simp only <;> omega
    | some a =>
      cases e2 : dF fs n with
      | none => simp only; omega
      | some b => simp only [List.length_cons]; omega
theorem cnt_le {f : Nat → Option Nat} : ∀ r n : Nat, cnt f r n ≤ r := by
  intro r
  induction r with
  | zero => intro n; exact Nat.le_refl _
  | succ r ih =>
    intro n
    have := ih (n + 1)
    unfold cnt
    cases f n <;> simp only <;> omega
theorem cnt_up {f g : Nat → Option Nat} (h : ∀ n a, f n = some a → ∃ b, g n = some b) : ∀ r n : Nat, cnt f r n ≤ cnt g r n := by
  intro r
  induction r with
  | zero => intro n; exact Nat.le_refl _
  | succ r ih =>
    intro n
    have := ih (n + 1)
    unfold cnt
    cases e : f n with
    | none => simp only; omega
    | some a =>
      obtain ⟨b, hb⟩ := h n a e
      rw [hb]
      simp only; omega
theorem agl_grow {ws fs ws2 fs2 : List Nat} {sl sl2 : Nat} (h1 : ∀ n a, dW ws sl n = some a → ∃ b, dW ws2 sl2 n = some b) (h2 : ∀ n a, dF fs n = some a → ∃ b, dF fs2 n = some b) : ∀ r n : Nat, (agl ws fs sl r n).length ≤ (agl ws2 fs2 sl2 r n).length := by
  intro r
  induction r with
  | zero => intro n; exact Nat.le_refl _
  | succ r ih =>
    intro n
    have := ih (n + 1)
    unfold agl
    cases e1 : dW ws sl n with
    | none =>
      simp only
      split
      · rw [List.length_cons]; omega
      · exact this
    | some a =>
      cases e2 : dF fs n with
      | none =>
        simp only
        split
        · rw [List.length_cons]; omega
        · exact this
      | some b =>
        obtain ⟨a2, ha⟩ := h1 n a e1
        obtain ⟨b2, hb⟩ := h2 n b e2
        rw [ha, hb]
        simp only [List.length_cons]; omega
/-- BEST TO MAKE OUT is a ? of WORDS -/
theorem bpl_ok {ws : List Nat} {l : List (Nat × Nat)} {x : Nat} : ∀ (r p : Nat) (o : Option Nat) (fw : Nat), bpl ws l r p o fw = some x → o = some x ∨ (p ≤ x ∧ x < p + r ∧ nA ws x = 63) := by
  intro r
  induction r with
  | zero => intro p o fw h; exact Or.inl h
  | succ r ih =>
    intro p o fw h
    unfold bpl at h
    split at h
    · rename_i c
      split at h
      · rcases ih _ _ _ h with q | ⟨a, b, d⟩
        · cases q; exact Or.inr ⟨by omega, by omega, c⟩
        · exact Or.inr ⟨by omega, by omega, d⟩
      · rcases ih _ _ _ h with q | ⟨a, b, d⟩
        · exact Or.inl q
        · exact Or.inr ⟨by omega, by omega, d⟩
    · rcases ih _ _ _ h with q | ⟨a, b, d⟩
      · exact Or.inl q
      · exact Or.inr ⟨by omega, by omega, d⟩
