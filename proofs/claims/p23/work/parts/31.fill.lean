/-! the least DOUBT of all sums -/
def agOk (s : Sh) : Prop := ∀ i, i < s.1.length → ∀ k, k < (agE s i).1.length → pN (agE s i).1 k < 1000 ∧ pD (agE s i).1 k < 100
theorem FdK.ok {h : smH} {F : Nat} {ld : Int32} {W} {l : Bool} {s : Sh} (r : FdK h F true ld W l s) (h6 : s.1.length ≤ 6) : agOk s := by
  intro i hi k hk
  have := r.2.2.1 i (by omega)
  rw [r.2.2.2 rfl i hi] at this
  exact this.bd hk
theorem agl_lo {ws fs : List Nat} {sl : Nat} : ∀ r n k : Nat, k < (agl ws fs sl r n).length → n ≤ pN (agl ws fs sl r n) k := by
  intro r
  induction r with
  | zero => intro n k h; exact absurd h (Nat.not_lt_zero k)
  | succ r ih =>
    intro n k h
    unfold agl at h ⊢
    cases e1 : dW ws sl n with
    | none =>
      rw [e1] at h
      have := ih (n + 1) k h
      exact Nat.le_of_succ_le this
    | some a =>
      cases e2 : dF fs n with
      | none =>
        rw [e1, e2] at h
        have := ih (n + 1) k h
        exact Nat.le_of_succ_le this
      | some b =>
        rw [e1, e2] at h
        cases k with
        | zero => exact Nat.le_refl n
        | succ k =>
          have := ih (n + 1) k (by simpa using h)
          exact Nat.le_of_succ_le this
theorem agl_up {ws fs : List Nat} {sl : Nat} : ∀ r n i j : Nat, i < j → j < (agl ws fs sl r n).length → pN (agl ws fs sl r n) i < pN (agl ws fs sl r n) j := by
  intro r
  induction r with
  | zero => intro n i j h1 h; exact absurd h (Nat.not_lt_zero j)
  | succ r ih =>
    intro n i j h1 h
    unfold agl at h ⊢
    cases e1 : dW ws sl n with
    | none =>
      rw [e1] at h
      exact ih (n + 1) i j h1 h
    | some a =>
      cases e2 : dF fs n with
      | none =>
        rw [e1, e2] at h
        exact ih (n + 1) i j h1 h
      | some b =>
        rw [e1, e2] at h
        cases j with
        | zero => exact absurd h1 (Nat.not_lt_zero i)
        | succ j =>
          have hj : j < (agl ws fs sl r (n + 1)).length := by simpa using h
          cases i with
          | zero =>
            have := agl_lo r (n + 1) j hj
            exact this
          | succ i => exact ih (n + 1) i j (by omega) hj
theorem ag_up {s : Sh} {e i j : Nat} (h1 : i < j) (h2 : j < (agE s e).1.length) : pN (agE s e).1 i < pN (agE s e).1 j := agl_up 1000 0 i j h1 h2
theorem ag_top {s : Sh} {e k : Nat} (hk : k < (agE s e).1.length) : pN (agE s e).1 k ≤ top (agE s e).1 := by
  unfold top
  rw [if_neg (by omega)]
  by_cases h : k = (agE s e).1.length - 1
  · rw [← h]; exact Nat.le_refl _
  · have := ag_up (s := s) (e := e) (i := k) (j := (agE s e).1.length - 1) (by omega) (by omega)
    omega
theorem top_lt {s : Sh} (ha : agOk s) {e : Nat} (he : e < s.1.length) : top (agE s e).1 < 1000 := by
  unfold top
  split
  · omega
  · exact (ha e he _ (by omega)).1
def lsq (s : Sh) : Nat → Nat → Nat → Option Nat
  | 0, _, sum => if sum = 0 then some 0 else none
  | r + 1, i, sum => laS (agE s i).1 (lsq s r (i + 1)) sum (agE s i).1.length 0 none
theorem laS_ex {l : List (Nat × Nat)} {beh : Nat → Option Nat} {sum v : Nat} : ∀ (r k : Nat) (o : Option Nat), laS l beh sum r k o = some v → o = some v ∨ ∃ j, k ≤ j ∧ j < k + r ∧ dwt l j beh sum = some v := by
  intro r
  induction r with
  | zero => intro k o h; exact Or.inl h
  | succ r ih =>
    intro k o h
    unfold laS at h
    cases e : dwt l k beh sum with
    | none =>
      rw [e] at h
      rcases ih (k + 1) o h with q | ⟨j, h1, h2, h3⟩
      · exact Or.inl q
      · exact Or.inr ⟨j, by omega, by omega, h3⟩
    | some x =>
      rw [e] at h
      have two : ∀ o2 : Option Nat, laS l beh sum r (k + 1) o2 = some v → (o2 = o ∨ o2 = some x) → o = some v ∨ ∃ j, k ≤ j ∧ j < k + (r + 1) ∧ dwt l j beh sum = some v := by
        intro o2 h2 h3
        rcases ih (k + 1) o2 h2 with q | ⟨j, g1, g2, g3⟩
        · rcases h3 with h3 | h3
          · exact Or.inl (h3 ▸ q)
          · exact Or.inr ⟨k, by omega, by omega, by rw [e, ← h3]; exact q⟩
        · exact Or.inr ⟨j, by omega, by omega, g3⟩
      cases o with
      | none => exact two (some x) h (Or.inr rfl)
      | some b =>
        dsimp only at h
        split at h
        · exact two (some x) h (Or.inr rfl)
        · exact two (some b) h (Or.inl rfl)
theorem lsq_le {s : Sh} (ha : agOk s) : ∀ (r i x v : Nat), i + r = s.1.length → lsq s r i x = some v → v ≤ 99 * r := by
  intro r
  induction r with
  | zero =>
    intro i x v hi h
    unfold lsq at h
    split at h
    · cases h; omega
    · cases h
  | succ r ih =>
    intro i x v hi h
    unfold lsq at h
    rcases laS_ex _ _ _ h with q | ⟨j, g1, g2, g3⟩
    · cases q
    · unfold dwt at g3
      split at g3
      · cases g3
      · split at g3
        · cases g3
        · rename_i y e
          cases g3
          have := ih (i + 1) _ _ (by omega) e
          have := (ha i (by omega) j (by omega)).2
          omega
theorem lsq_B {s : Sh} (ha : agOk s) (h6 : s.1.length ≤ 6) {r i : Nat} (hi : i + r = s.1.length) : ∀ x v, lsq s r i x = some v → v ≤ 1000 := fun x v h => by
  have := lsq_le ha r i x v hi h
  omega
/-- the highest sum that can be reached, up to the TOTAL -/
def hiS (s : Sh) (t : Nat) : Nat → Nat → Nat
  | 0, _ => 0
  | r + 1, i => if t < hiS s t r (i + 1) + top (agE s i).1 then t else hiS s t r (i + 1) + top (agE s i).1
theorem hiS_le {s : Sh} {t : Nat} : ∀ r i : Nat, hiS s t r i ≤ t := by
  intro r i
  cases r with
  | zero => exact Nat.zero_le _
  | succ r => unfold hiS; split <;> omega
theorem hiS_ok {s : Sh} {t : Nat} : ∀ (r i x v : Nat), x ≤ t → lsq s r i x = some v → x ≤ hiS s t r i := by
  intro r
  induction r with
  | zero =>
    intro i x v hx h
    unfold lsq at h
    split at h
    · omega
    · cases h
  | succ r ih =>
    intro i x v hx h
    unfold lsq at h
    rcases laS_ex _ _ _ h with q | ⟨j, g1, g2, g3⟩
    · cases q
    · unfold dwt at g3
      split at g3
      · cases g3
      · split at g3
        · cases g3
        · rename_i y e
          have := ih (i + 1) _ _ (by omega) e
          have := ag_top (s := s) (e := i) (k := j) (by omega)
          unfold hiS
          split <;> omega
def LbS (h : smH) (F : Nat) (R : Nat → Nat → Int32) : Prop := ∀ i, i < 7 → IA h (F + 3 + i) 5995 (R i)
theorem FdS.lb {h : smH} {F : Nat} (r : FdS h F) : ∃ R, LbS h F R := by
  have hb : ∀ i, ∃ f, i < 7 → IA h (F + 3 + i) 5995 f := fun i => by
    by_cases hi : i < 7
    · obtain ⟨f, hf⟩ := r.1 i hi
      exact ⟨f, fun _ => hf⟩
    · exact ⟨fun _ => 0, fun h => absurd h hi⟩
  obtain ⟨R, hR⟩ := Classical.axiomOfChoice hb
  exact ⟨R, hR⟩
theorem LbS.set {h h' : smH} {F i : Nat} {R f} (r : LbS h F R) (hw : IA h' (F + 3 + i) 5995 f) (k : Fr h h' (F + 3 + i) (F + 3 + i + 1)) : LbS h' F (uP R i f) := by
  intro j hj
  by_cases e : j = i
  · subst e
    rw [uP_eq]
    exact hw
  · rw [uP_ne e]
    exact (r j hj).fr k (by omega)
theorem m86_clear {X : smX} {F n t : Nat} {a b : Int32} {ld : Int32} (hn : n ≤ 6) : ∀ (d i : Nat), i + d = n + 1 → ∀ (h : smH) (R : Nat → Nat → Int32), FdO h F a b ld → LbS h F R → (∀ j, j < i → ∀ x, x < 5995 → R j x = -nI 1) → ∃ h' R', sm_E PP X 86 2 [(0, .ref F), (1, .int (nI n)), (2, .int (nI t)), (3, .int (nI i))] [] h = sm_E PP X 86 29 [(0, .ref F), (1, .int (nI n)), (2, .int (nI t))] [] h' ∧ LbS h' F R' ∧ (∀ j, j ≤ n → ∀ x, x < 5995 → R' j x = -nI 1) ∧ Fr h h' (F + 3) (F + 10) := by
  intro d
  induction d with
  | zero =>
    intro i hi h R ro rl hR
    refine ⟨h, R, ?_, rl, fun j hj => hR j (by omega), Fr.rf⟩
    rw [b86_2, if_pos (nI_lt (by omega) (by omega))]
  | succ d ih =>
    intro i hi h R ro rl hR
    obtain ⟨h1, f1, e1, q1, g1, k1⟩ := m82 (X := X) (x := -nI 1) (show 5995 ≤ 10000 by omega) (rl i (by omega))
    obtain ⟨h2, R2, e2, q2, g2, k2⟩ := ih (i + 1) (by omega) h1 _ (ro.fr k1 (by omega)) (rl.set q1 k1) (fun j hj x hx => by
      by_cases e : j = i
      · rw [e, uP_eq]; exact g1 x hx
      · rw [uP_ne e]; exact hR j (by omega) x hx)
    refine ⟨h2, R2, ?_, q2, g2, k1.tr k2 (by omega) (by omega) (by omega) (by omega)⟩
    rw [b86_2, if_neg (nI_nlt (by omega) (by omega)), if_neg (nI_nlt (by omega) (by omega))]
    simp only [fO ro.1, sm_gI_s, sm_gR_s, sm_gJ_s, sm_cR_s, sm_al_s, sm_sw_s, sm_tl1, sm_tl0, sm_ap0, sm_ap1, List.getElem?_cons_zero, List.getElem?_cons_succ, nk10, nk11, if_true, eq_self, ro.lb (show i < 7 by omega), e1, b86_23, nI_add, e2]
theorem m86_row {X : smX} {F t p hg : Nat} {a b : Int32} {ld : Int32} {W} {s : Sh} (h6 : s.1.length ≤ 6) (ok : agOk s) (hp : p < s.1.length) (hW : W p = agE s p) (ht : t ≤ 5994) (hh : hg ≤ t) : ∀ (d x : Nat), x + d = hg + 1 → ∀ (h : smH) (R : Nat → Nat → Int32), FdO h F a b ld → AgS h F W → LbS h F R → (∀ y, y ≤ t → R (p + 1) y = oU (lsq s (s.1.length - (p + 1)) (p + 1) y)) → (∀ y, y < x → R p y = oU (lsq s (s.1.length - p) p y)) → ∃ h' f, sm_E PP X 86 91 [(0, .ref F), (2, .int (nI t)), (3, .int (nI hg)), (4, .int (nI p)), (5, .int (nI x))] [] h = sm_E PP X 86 60 [(0, .ref F), (2, .int (nI t)), (3, .int (nI hg)), (4, .int (nI p + -nI 1))] [] h' ∧ LbS h' F (uP R p f) ∧ (∀ y, y ≤ hg → f y = oU (lsq s (s.1.length - p) p y)) ∧ (∀ y, x ≤ y → hg < y → f y = R p y) ∧ Fr h h' (F + 3) (F + 10) := by
  intro d
  induction d with
  | zero =>
    intro x hx h R ro ra rl h1 h2
    refine ⟨h, R p, ?_, ?_, fun y hy => h2 y (by omega), fun y _ _ => rfl, Fr.rf⟩
    · rw [b86_91, if_pos (nI_lt (by omega) (by omega))]
    · intro j hj
      by_cases e : j = p
      · subst e; rw [uP_eq]; exact rl j hj
      · rw [uP_ne e]; exact rl j hj
  | succ d ih =>
    intro x hx h R ro ra rl h1 h2
    have rA := ra p (by omega)
    rw [hW] at rA
    have e85 := m85 (X := X) rA (rl (p + 1) (by omega)) (show x ≤ 5994 by omega) (fun y hy => h1 y (by omega)) (lsq_B ok h6 (by omega))
    have hl : lsq s (s.1.length - p) p x = laS (agE s p).1 (lsq s (s.1.length - (p + 1)) (p + 1)) x (agE s p).1.length 0 none := by
      rw [show s.1.length - p = (s.1.length - (p + 1)) + 1 by omega]
      rfl
    rw [← hl] at e85
    have k1 : Fr h (sm_w h (F + 3 + p) (.inl (.int, 5995, .inl (upd (R p) x (oU (lsq s (s.1.length - p) p x)))))) (F + 3 + p) (F + 3 + p + 1) := Fr.w
    have rl1 := rl.set (f := upd (R p) x (oU (lsq s (s.1.length - p) p x))) w_eq k1
    obtain ⟨h3, f3, e3, q3, g3, g4, k3⟩ := ih (x + 1) (by omega) _ _ (ro.fr k1 (by omega)) (ra.fr k1 (by omega)) rl1 (fun y hy => by rw [uP_ne (by omega)]; exact h1 y hy) (fun y hy => by
      rw [uP_eq]
      by_cases e : y = x
      · rw [e, pk_us]
      · rw [pk_un e]; exact h2 y (by omega))
    refine ⟨h3, f3, ?_, ?_, g3, fun y hy hy2 => ?_, k1.tr k3 (by omega) (by omega) (by omega) (by omega)⟩
    · rw [b86_91, if_neg (nI_nlt (by omega) (by omega))]
      simp only [fO ro.1, sm_gI_s, sm_gR_s, sm_gJ_s, sm_cR_s, sm_al_s, sm_sw_s, sm_tl1, sm_tl0, sm_ap0, sm_ap1, List.getElem?_cons_zero, List.getElem?_cons_succ, nk10, nk11, if_true, eq_self, ro.lb (show p < 7 by omega), ro.ag (show p < 6 by omega), nI_add, ro.lb (show p + 1 < 7 by omega)]
      rw [show F + 3 + (p + 1) = F + 3 + (p + 1) from rfl, e85]
      simp only [sm_gI_s, sm_gR_s, sm_gJ_s, sm_cR_s, sm_al_s, sm_sw_s, sm_tl1, sm_tl0, sm_ap0, sm_ap1, List.getElem?_cons_zero, List.getElem?_cons_succ, nk10, nk11, if_true, eq_self, b86_127]
      rw [stO (rl p (by omega)) (show x < 5995 by omega) (by omega), nI_add]
      exact e3
    · intro j hj
      have := q3 j hj
      by_cases e : j = p
      · subst e; rw [uP_eq] at this ⊢; exact this
      · rw [uP_ne e, uP_ne e] at this; rw [uP_ne e]; exact this
    · rw [g4 y (by omega) hy2, uP_eq, pk_un (by omega)]
theorem m86_rows {X : smX} {F t : Nat} {a b : Int32} {ld : Int32} {W} {s : Sh} (h6 : s.1.length ≤ 6) (ok : agOk s) (hW : ∀ p, p < s.1.length → W p = agE s p) (ht : t ≤ 5994) : ∀ (p : Nat), p ≤ s.1.length → ∀ (h : smH) (R : Nat → Nat → Int32), FdO h F a b ld → AgS h F W → LbS h F R → (∀ i, p ≤ i → i ≤ s.1.length → ∀ y, y ≤ t → R i y = oU (lsq s (s.1.length - i) i y)) → (∀ i, i < p → ∀ y, y ≤ t → R i y = -nI 1) → ∃ h' R', sm_E PP X 86 60 [(0, .ref F), (2, .int (nI t)), (3, .int (nI (hiS s t (s.1.length - p) p))), (4, .int (nI p + -nI 1))] [] h = some (none, h') ∧ LbS h' F R' ∧ (∀ i, i ≤ s.1.length → ∀ y, y ≤ t → R' i y = oU (lsq s (s.1.length - i) i y)) ∧ Fr h h' (F + 3) (F + 10) := by
  intro p
  induction p with
  | zero =>
    intro hp h R ro ra rl h1 h2
    refine ⟨h, R, ?_, rl, fun i hi => h1 i (by omega) hi, Fr.rf⟩
    rw [b86_60, if_pos (by decide)]
  | succ p ih =>
    intro hp h R ro ra rl h1 h2
    have rA := ra p (by omega)
    rw [hW p (by omega)] at rA
    have hT := top_lt ok (e := p) (by omega)
    have hH := hiS_le (s := s) (t := t) (s.1.length - (p + 1)) (p + 1)
    have hH2 := hiS_le (s := s) (t := t) (s.1.length - p) p
    have hS : hiS s t (s.1.length - p) p = if t < hiS s t (s.1.length - (p + 1)) (p + 1) + top (agE s p).1 then t else hiS s t (s.1.length - (p + 1)) (p + 1) + top (agE s p).1 := by
      conv => lhs; rw [show s.1.length - p = (s.1.length - (p + 1)) + 1 by omega]
      rfl
    obtain ⟨h1', f1, e1, q1, g1, g2, k1⟩ := m86_row (X := X) (hg := hiS s t (s.1.length - p) p) h6 ok (show p < s.1.length by omega) (hW p (by omega)) ht hH2 (hiS s t (s.1.length - p) p + 1) 0 (by omega) h R ro ra rl (fun y hy => h1 (p + 1) (by omega) (by omega) y hy) (fun y hy => by omega)
    obtain ⟨h2', R2, e2, q2, g3, k2⟩ := ih (by omega) h1' _ (ro.fr k1 (by omega)) (ra.fr k1 (by omega)) q1 (fun i hi hi2 y hy => by
      by_cases e : i = p
      · subst e
        rw [uP_eq]
        by_cases hy2 : y ≤ hiS s t (s.1.length - i) i
        · exact g1 y hy2
        · rw [g2 y (by omega) (by omega), h2 i (by omega) y hy]
          cases eL : lsq s (s.1.length - i) i y with
          | none => rfl
          | some v => exact absurd (hiS_ok _ _ _ _ hy eL) hy2
      · rw [uP_ne e]; exact h1 i (by omega) hi2 y hy) (fun i hi y hy => by rw [uP_ne (by omega)]; exact h2 i (by omega) y hy)
    refine ⟨h2', R2, ?_, q2, g3, k1.tr k2 (by omega) (by omega) (by omega) (by omega)⟩
    rw [b86_60, pk_m1', if_neg (nI_pos (by omega))]
    simp only [fO ro.1, sm_gI_s, sm_gR_s, sm_gJ_s, sm_cR_s, sm_al_s, sm_sw_s, sm_tl1, sm_tl0, sm_ap0, sm_ap1, List.getElem?_cons_zero, List.getElem?_cons_succ, nk10, nk11, if_true, eq_self, ro.ag (show p < 6 by omega), vO rA.1, m83 rA, b86_76, nI_add]
    rw [if_neg (nI_nlt (show t ≤ 5994 from ht) (by omega))]
    have hE : (if nI t < nI (hiS s t (s.1.length - (p + 1)) (p + 1) + top (agE s p).1) then nI t else nI (hiS s t (s.1.length - (p + 1)) (p + 1) + top (agE s p).1)) = nI (hiS s t (s.1.length - p) p) := by
      rw [hS]
      simp only [nI_ltI (show t < 2 ^ 31 by omega) (show hiS s t (s.1.length - (p + 1)) (p + 1) + top (agE s p).1 < 2 ^ 31 by omega)]
      split <;> rfl
    rw [hE, e1]
    exact e2
/-- fillLeastBySum -/
theorem m86 {X : smX} {h : smH} {F t : Nat} {ld : Int32} {W} {l : Bool} {s : Sh} (r : FdK h F true ld W l s) (h6 : s.1.length ≤ 6) (ht : t ≤ 5994) : ∃ h' R, sm_C PP X 86 [.ref F, .int (nI s.1.length), .int (nI t)] h = some (none, h') ∧ LbS h' F R ∧ (∀ i, i ≤ s.1.length → ∀ y, y ≤ t → R i y = oU (lsq s (s.1.length - i) i y)) ∧ Fr h h' (F + 3) (F + 10) := by
  have ok := r.ok h6
  obtain ⟨ro, rs, ra, rw1⟩ := r
  obtain ⟨R0, rl⟩ := rs.lb
  obtain ⟨h1, R1, e1, q1, g1, k1⟩ := m86_clear (X := X) (t := t) h6 (s.1.length + 1) 0 (by omega) h R0 ro rl (fun j hj => by omega)
  have ro1 := ro.fr k1 (by omega)
  have k2 : Fr h1 (sm_w h1 (F + 3 + s.1.length) (.inl (.int, 5995, .inl (upd (R1 s.1.length) 0 (nI 0))))) (F + 3 + s.1.length) (F + 3 + s.1.length + 1) := Fr.w
  have rl2 := q1.set (f := upd (R1 s.1.length) 0 (nI 0)) w_eq k2
  obtain ⟨h3, R3, e3, q3, g3, k3⟩ := m86_rows (X := X) h6 ok (rw1 rfl) ht s.1.length (Nat.le_refl _) _ _ (ro1.fr k2 (by omega)) ((ra.fr k1 (by omega)).fr k2 (by omega)) rl2 (fun i hi hi2 y hy => by
    obtain rfl : i = s.1.length := by omega
    rw [uP_eq, Nat.sub_self]
    unfold lsq
    by_cases e : y = 0
    · rw [e, pk_us]; rfl
    · rw [pk_un e, if_neg e, g1 _ (Nat.le_refl _) y (by omega)]; rfl) (fun i hi y hy => by rw [uP_ne (by omega)]; exact g1 i (by omega) y (by omega))
  refine ⟨h3, R3, ?_, q3, g3, (k1.tr k2 (lo := F + 3) (hi := F + 10) (by omega) (by omega) (by omega) (by omega)).s k3⟩
  rw [c86, b86_0, e1, b86_29, if_neg (nI_pos (by omega)), if_neg (nI_nlt (by omega) (by omega))]
  simp only [fO ro1.1, sm_gI_s, sm_gR_s, sm_gJ_s, sm_cR_s, sm_al_s, sm_sw_s, sm_tl1, sm_tl0, sm_ap0, sm_ap1, List.getElem?_cons_zero, List.getElem?_cons_succ, nk10, nk11, if_true, eq_self, ro1.lb (show s.1.length < 7 by omega)]
  rw [stO (q1 s.1.length (by omega)) (show 0 < 5995 by omega) (by omega), b86_48, if_neg (nI_nlt (by omega) (by omega)), Int32.sub_eq_add_neg]
  rw [Nat.sub_self] at e3
  exact e3
