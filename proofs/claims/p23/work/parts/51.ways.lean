/-! LEAST and SURE: what their answers say of each other -/
def pfx (g : Nat → Nat) : Nat → Nat
  | 0 => 0
  | e + 1 => pfx g e + g e
def fus (c : Nat → Nat) : Nat → Nat → Nat
  | 0, _ => 0
  | r + 1, i => c i + fus c r (i + 1)
def exs (e : Nat) (c : Nat → Nat) : Nat → Nat → Nat
  | 0, _ => 0
  | r + 1, i => (if i = e then 0 else c i) + exs e c r (i + 1)
theorem fus_pfx {c : Nat → Nat} : ∀ r i : Nat, pfx c (i + r) = pfx c i + fus c r i := by
  intro r
  induction r with
  | zero => intro i; rfl
  | succ r ih =>
    intro i
    have := ih (i + 1)
    rw [show i + (r + 1) = i + 1 + r by omega, this]
    show pfx c i + c i + fus c r (i + 1) = pfx c i + (c i + fus c r (i + 1))
    omega
theorem fus_cg {c d : Nat → Nat} : ∀ r i : Nat, (∀ j, i ≤ j → j < i + r → c j = d j) → fus c r i = fus d r i := by
  intro r
  induction r with
  | zero => intro i h; rfl
  | succ r ih =>
    intro i h
    unfold fus
    rw [h i (by omega) (by omega), ih (i + 1) (fun j a b => h j (by omega) (by omega))]
theorem exs_cg {e : Nat} {c d : Nat → Nat} : ∀ r i : Nat, (∀ j, i ≤ j → j < i + r → j ≠ e → c j = d j) → exs e c r i = exs e d r i := by
  intro r
  induction r with
  | zero => intro i h; rfl
  | succ r ih =>
    intro i h
    unfold exs
    rw [ih (i + 1) (fun j a b => h j (by omega) (by omega))]
    by_cases q : i = e
    · rw [if_pos q, if_pos q]
    · rw [if_neg q, if_neg q, h i (by omega) (by omega) q]
theorem exs_out {e : Nat} {c : Nat → Nat} : ∀ r i : Nat, e < i → fus c r i = exs e c r i := by
  intro r
  induction r with
  | zero => intro i h; rfl
  | succ r ih =>
    intro i h
    unfold fus exs
    rw [ih (i + 1) (by omega), if_neg (by omega)]
theorem exs_in {e : Nat} {c : Nat → Nat} : ∀ r i : Nat, i ≤ e → e < i + r → fus c r i = exs e c r i + c e := by
  intro r
  induction r with
  | zero => intro i a b; omega
  | succ r ih =>
    intro i a b
    unfold fus exs
    by_cases q : i = e
    · rw [if_pos q, exs_out (e := e) r (i + 1) (by omega), q]; omega
    · rw [if_neg q, ih (i + 1) (by omega) (by omega)]; omega
theorem fus_le {c : Nat → Nat} : ∀ r i : Nat, (∀ j, i ≤ j → j < i + r → c j < 1000) → fus c r i ≤ 999 * r := by
  intro r
  induction r with
  | zero => intro i h; exact Nat.le_refl _
  | succ r ih =>
    intro i h
    have := ih (i + 1) (fun j a b => h j (by omega) (by omega))
    have := h i (by omega) (by omega)
    unfold fus
    omega
/-- n is one of the AGREEING NUMBERS of the j-th -/
def isA (s : Sh) (j n : Nat) : Prop := ∃ k, k < (agE s j).1.length ∧ n = pN (agE s j).1 k
theorem laS_in {l : List (Nat × Nat)} {beh : Nat → Option Nat} {sum : Nat} : ∀ (r k : Nat) (o : Option Nat), ((∃ j v, k ≤ j ∧ j < k + r ∧ dwt l j beh sum = some v) ∨ ∃ w, o = some w) → ∃ v, laS l beh sum r k o = some v := by
  intro r
  induction r with
  | zero =>
    intro k o h
    rcases h with ⟨j, v, a, b, c⟩ | ⟨w, rfl⟩
    · omega
    · exact ⟨w, rfl⟩
  | succ r ih =>
    intro k o h
    unfold laS
    cases e : dwt l k beh sum with
    | none =>
      refine ih (k + 1) o ?_
      rcases h with ⟨j, v, a, b, c⟩ | h
      · have : j ≠ k := fun q => by rw [q, e] at c; cases c
        exact Or.inl ⟨j, v, by omega, by omega, c⟩
      · exact Or.inr h
    | some d =>
      cases o with
      | none => exact ih (k + 1) _ (Or.inr ⟨_, rfl⟩)
      | some b =>
        simp only
        split
        · exact ih (k + 1) _ (Or.inr ⟨_, rfl⟩)
        · exact ih (k + 1) _ (Or.inr ⟨_, rfl⟩)
theorem lsq_in {s : Sh} {c : Nat → Nat} : ∀ r i : Nat, (∀ j, i ≤ j → j < i + r → isA s j (c j)) → ∃ v, lsq s r i (fus c r i) = some v := by
  intro r
  induction r with
  | zero => intro i h; exact ⟨0, rfl⟩
  | succ r ih =>
    intro i h
    obtain ⟨v, hv⟩ := ih (i + 1) (fun j a b => h j (by omega) (by omega))
    obtain ⟨k, k1, k2⟩ := h i (by omega) (by omega)
    unfold lsq
    refine laS_in _ _ _ (Or.inl ⟨k, pD (agE s i).1 k + v, by omega, by omega, ?_⟩)
    unfold dwt fus
    rw [if_neg (by omega), ← k2, show c i + fus c r (i + 1) - c i = fus c r (i + 1) by omega, hv]
theorem rby_in {l : List (Nat × Nat)} {R : Nat → Bool} {x : Nat} : ∀ r k : Nat, (∃ j, k ≤ j ∧ j < k + r ∧ pN l j ≤ x ∧ R (x - pN l j) = true) → rby l R x r k = true := by
  intro r
  induction r with
  | zero => intro k ⟨j, a, b, c⟩; omega
  | succ r ih =>
    intro k ⟨j, a, b, c⟩
    unfold rby
    by_cases e : pN l k ≤ x ∧ R (x - pN l k) = true
    · rw [if_pos e]
    · rw [if_neg e]
      have : j ≠ k := fun q => e (q ▸ c)
      exact ih (k + 1) ⟨j, by omega, by omega, c⟩
theorem rcs_in {s : Sh} {e : Nat} {c : Nat → Nat} : ∀ (r i : Nat) (R : Nat → Bool) (x : Nat), (∀ j, i ≤ j → j < i + r → j ≠ e → isA s j (c j)) → R x = true → rcs s e r i R (x + exs e c r i) = true := by
  intro r
  induction r with
  | zero => intro i R x h hx; exact hx
  | succ r ih =>
    intro i R x h hx
    unfold rcs exs
    by_cases q : i = e
    · rw [if_pos q, if_pos q, Nat.zero_add]
      exact ih (i + 1) R x (fun j a b => h j (by omega) (by omega)) hx
    · rw [if_neg q, if_neg q, ← Nat.add_assoc]
      refine ih (i + 1) _ (x + c i) (fun j a b => h j (by omega) (by omega)) ?_
      obtain ⟨k, k1, k2⟩ := h i (by omega) (by omega) q
      exact rby_in _ _ ⟨k, by omega, by omega, by omega, by rw [← k2, Nat.add_sub_cancel]; exact hx⟩
theorem rcs_out {s : Sh} {e : Nat} : ∀ (r i : Nat) (R : Nat → Bool) (x : Nat), rcs s e r i R x = true → ∃ (c : Nat → Nat) (y : Nat), (∀ j, i ≤ j → j < i + r → j ≠ e → isA s j (c j)) ∧ R y = true ∧ x = y + exs e c r i := by
  intro r
  induction r with
  | zero => intro i R x h; exact ⟨fun _ => 0, x, fun j a b => by omega, h, rfl⟩
  | succ r ih =>
    intro i R x h
    unfold rcs at h
    by_cases q : i = e
    · rw [if_pos q] at h
      obtain ⟨c, y, h1, h2, h3⟩ := ih (i + 1) R x h
      refine ⟨c, y, fun j a b n => h1 j (by omega) (by omega) n, h2, ?_⟩
      unfold exs
      rw [if_pos q, Nat.zero_add]
      exact h3
    · rw [if_neg q] at h
      obtain ⟨c, y, h1, h2, h3⟩ := ih (i + 1) _ x h
      obtain ⟨k, k1, k2, k3, k4⟩ := rby_ex _ _ h2
      refine ⟨fun j => if j = i then pN (agE s i).1 k else c j, y - pN (agE s i).1 k, fun j a b n => ?_, k4, ?_⟩
      · by_cases z : j = i
        · rw [z]; show isA s i (if i = i then _ else _); rw [if_pos rfl]; exact ⟨k, by omega, rfl⟩
        · show isA s j (if j = i then _ else _); rw [if_neg z]; exact h1 j (by omega) (by omega) n
      · unfold exs
        rw [if_neg q, if_pos rfl, exs_cg (d := c) r (i + 1) (fun j a b _ => if_neg (by omega)), h3]
        omega
def rch (l : List (Nat × Nat)) (R : Nat → Bool) (t k : Nat) : Prop := pN l k ≤ t ∧ t - pN l k ≤ 5994 ∧ R (t - pN l k) = true
theorem suL_s {l : List (Nat × Nat)} {R : Nat → Bool} {t v w : Nat} : ∀ r k : Nat, suL l R t r k (some w) = some v → v = w ∧ ∀ j, k ≤ j → j < k + r → ¬ rch l R t j := by
  intro r
  induction r with
  | zero => intro k h; cases h; exact ⟨rfl, fun j a b => by omega⟩
  | succ r ih =>
    intro k h
    unfold suL at h
    split at h
    · cases h
    · rename_i q
      obtain ⟨a, b⟩ := ih (k + 1) h
      refine ⟨a, fun j c d => ?_⟩
      by_cases z : j = k
      · rw [z]; exact q
      · exact b j (by omega) (by omega)
theorem suL_n {l : List (Nat × Nat)} {R : Nat → Bool} {t v : Nat} : ∀ r k : Nat, suL l R t r k none = some v → ∃ j, k ≤ j ∧ j < k + r ∧ rch l R t j ∧ v = pN l j ∧ ∀ j2, k ≤ j2 → j2 < k + r → rch l R t j2 → j2 = j := by
  intro r
  induction r with
  | zero => intro k h; cases h
  | succ r ih =>
    intro k h
    unfold suL at h
    split at h
    · rename_i q
      obtain ⟨a, b⟩ := suL_s r (k + 1) h
      refine ⟨k, by omega, by omega, q, a, fun j c d g => ?_⟩
      by_cases z : j = k
      · exact z
      · exact absurd g (b j (by omega) (by omega))
    · rename_i q
      obtain ⟨j, a, b, c, d, g⟩ := ih (k + 1) h
      refine ⟨j, by omega, by omega, c, d, fun j2 x y z => ?_⟩
      by_cases w : j2 = k
      · rw [w] at z; exact absurd z q
      · exact g j2 (by omega) (by omega) z
theorem loE_ok2 {s : Sh} {e x v : Nat} (he : e < s.1.length) (h : lsq s (s.1.length - e) e x = some v) : ∃ j y, j < (agE s e).1.length ∧ loE s e x = pN (agE s e).1 j ∧ pN (agE s e).1 j ≤ x ∧ lsq s (s.1.length - (e + 1)) (e + 1) (x - loE s e x) = some y ∧ v = pD (agE s e).1 j + y := by
  have h0 := h
  rw [show s.1.length - e = (s.1.length - (e + 1)) + 1 by omega] at h
  unfold lsq at h
  rcases laS_ex _ _ _ h with q | ⟨j, g1, g2, g3⟩
  · cases q
  · obtain ⟨j2, k1, k2, k3, k4⟩ := loI_ok (agE s e).1.length 0 ⟨j, g1, g2, g3⟩
    have k5 : loE s e x = pN (agE s e).1 j2 := by
      unfold loE
      rw [h0]
      exact k4
    unfold dwt at k3
    split at k3
    · cases k3
    · split at k3
      · cases k3
      · rename_i q1 y q2
        exact ⟨j2, y, by omega, k5, by omega, by rw [k5]; exact q2, (Option.some.inj k3).symm⟩
/-- the DOUBT of LEAST's NUMBER of an entry; of the first as RANKED -/
def ddE (s : Sh) (e : Nat) : Nat := (dW (en s e).1 s.2.1 (lnE s e)).getD 0 + (dF (en s e).2 (lnE s e)).getD 0
def fdE (s : Sh) (e : Nat) : Nat := if 0 < (agE s e).1.length then pD (agE s e).1 (rk (agE s e).1 0) else 0
def fnE (s : Sh) (e : Nat) : Nat := if 0 < (agE s e).1.length then pN (agE s e).1 (rk (agE s e).1 0) else 0
theorem ag_mem {s : Sh} {e k : Nat} (hk : k < (agE s e).1.length) : ∃ a b, dW (en s e).1 s.2.1 (pN (agE s e).1 k) = some a ∧ dF (en s e).2 (pN (agE s e).1 k) = some b ∧ pD (agE s e).1 k = a + b := by
  obtain ⟨a, b, h1, h2, h3, -, -⟩ := agl_mem 1000 0 k hk
  exact ⟨a, b, h1, h2, h3⟩
theorem dd_of {s : Sh} {e j : Nat} (hj : j < (agE s e).1.length) (h : lnE s e = pN (agE s e).1 j) : ddE s e = pD (agE s e).1 j ∧ (∃ a, dW (en s e).1 s.2.1 (lnE s e) = some a) ∧ ∃ b, dF (en s e).2 (lnE s e) = some b := by
  obtain ⟨a, b, h1, h2, h3⟩ := ag_mem hj
  unfold ddE
  rw [h, h1, h2, h3]
  exact ⟨rfl, ⟨a, rfl⟩, b, rfl⟩
theorem alt_pos {s : Sh} (h : alt s s.1.length 0 0 = 0) {e : Nat} (he : e < s.1.length) : 0 < (agE s e).1.length := alt_0 _ 0 0 h e (by omega) (by omega)
theorem way_ok {s : Sh} {t v : Nat} (ht : s.2.2 = some t) (h : lsq s s.1.length 0 t = some v) : ∀ e, e ≤ s.1.length → ∃ y, lsq s (s.1.length - e) e (lft s t e) = some y ∧ pfx (lnE s) e + lft s t e = t ∧ pfx (ddE s) e + y = v ∧ pfx (fdE s) e ≤ pfx (ddE s) e := by
  intro e
  induction e with
  | zero => intro _; exact ⟨v, h, Nat.zero_add t, Nat.zero_add v, Nat.le_refl _⟩
  | succ e ih =>
    intro he
    obtain ⟨y, h1, h2, h3, h4⟩ := ih (by omega)
    obtain ⟨j, z, j1, j2, j3, j4, j5⟩ := loE_ok2 (show e < s.1.length by omega) h1
    have hl : lnE s e = loE s e (lft s t e) := by unfold lnE; rw [ht]
    obtain ⟨d1, -, -⟩ := dd_of j1 (hl.trans j2)
    have hf : fdE s e ≤ pD (agE s e).1 j := by
      unfold fdE
      rw [if_pos (by omega), rk_0]
      rcases (fm_ok (l := (agE s e).1) (by omega)).2.2 j j1 with q | q <;> omega
    refine ⟨z, j4, ?_, ?_, ?_⟩
    · show pfx (lnE s) e + lnE s e + (lft s t e - loE s e (lft s t e)) = t
      omega
    · show pfx (ddE s) e + ddE s e + z = v
      omega
    · show pfx (fdE s) e + fdE s e ≤ pfx (ddE s) e + ddE s e
      omega
theorem sumF_pfx {s : Sh} : ∀ r i a : Nat, sumF s r i a = a + fus (fun e => pD (agE s e).1 (fmI (agE s e).1)) r i := by
  intro r
  induction r with
  | zero => intro i a; rfl
  | succ r ih =>
    intro i a
    unfold sumF fus
    rw [ih]; omega
theorem pfx_cg {c d : Nat → Nat} {n : Nat} (h : ∀ j, j < n → c j = d j) : pfx c n = pfx d n := by
  have a := fus_pfx (c := c) n 0
  have b := fus_pfx (c := d) n 0
  have e := fus_cg (c := c) (d := d) n 0 (fun j _ q => h j (by omega))
  rw [Nat.zero_add] at a b
  rw [a, b, e]
  rfl
theorem ln_at {s : Sh} {v e : Nat} (h : leastD s = some v) (he : e < s.1.length) : ∃ j, j < (agE s e).1.length ∧ lnE s e = pN (agE s e).1 j := by
  unfold leastD at h
  split at h
  · rename_i h0
    cases ht : s.2.2 with
    | none =>
      refine ⟨fmI (agE s e).1, (fm_ok (alt_pos h0 he)).2.1, ?_⟩
      unfold lnE
      rw [ht]
    | some t =>
      rw [ht] at h
      simp only at h
      split at h
      · cases h
      · obtain ⟨y, h1, -⟩ := way_ok ht h e (by omega)
        obtain ⟨j, z, j1, j2, -⟩ := loE_ok2 he h1
        refine ⟨j, j1, ?_⟩
        unfold lnE
        rw [ht]
        exact j2
  · cases h
theorem least_ok {s : Sh} {v : Nat} (h : leastD s = some v) : alt s s.1.length 0 0 = 0 ∧ v = pfx (ddE s) s.1.length ∧ pfx (fdE s) s.1.length ≤ v ∧ (∀ t, s.2.2 = some t → pfx (lnE s) s.1.length = t ∧ t ≤ 5994) ∧ (s.2.2 = none → ∀ e, e < s.1.length → lnE s e = pN (agE s e).1 (rk (agE s e).1 0)) := by
  have hln := fun e (he : e < s.1.length) => ln_at h he
  unfold leastD at h
  split at h
  · rename_i h0
    refine ⟨h0, ?_⟩
    cases ht : s.2.2 with
    | none =>
      rw [ht] at h
      have e1 : ∀ e, e < s.1.length → ddE s e = pD (agE s e).1 (fmI (agE s e).1) := fun e he =>
        (dd_of (fm_ok (alt_pos h0 he)).2.1 (by unfold lnE; rw [ht])).1
      have e2 : ∀ e, e < s.1.length → fdE s e = pD (agE s e).1 (fmI (agE s e).1) := fun e he => by
        unfold fdE; rw [if_pos (alt_pos h0 he), rk_0]
      have hv : v = pfx (fun e => pD (agE s e).1 (fmI (agE s e).1)) s.1.length := by
        have a := fus_pfx (c := fun e => pD (agE s e).1 (fmI (agE s e).1)) s.1.length 0
        rw [Nat.zero_add] at a
        rw [a, ← Option.some.inj h, sumF_pfx]
        rfl
      rw [pfx_cg e1, pfx_cg e2, ← hv]
      refine ⟨rfl, Nat.le_refl _, fun t q => (by cases q), fun _ e he => ?_⟩
      unfold lnE
      rw [ht, rk_0]
    | some t =>
      rw [ht] at h
      simp only at h
      split at h
      · cases h
      · rename_i h5
        obtain ⟨y, h1, h2, h3, h4⟩ := way_ok ht h s.1.length (Nat.le_refl _)
        rw [Nat.sub_self] at h1
        unfold lsq at h1
        split at h1
        · rename_i hz
          cases h1
          refine ⟨by omega, by omega, fun t2 q => ?_, fun q => by cases q⟩
          cases q
          exact ⟨by omega, by omega⟩
        · cases h1
  · cases h
theorem sur_ways {s : Sh} {e t : Nat} (he : e < s.1.length) {j : Nat} (hj : j < (agE s e).1.length) (h : rch (agE s e).1 (rcs s e s.1.length 0 (fun x => decide (x = 0))) t j) : ∃ c : Nat → Nat, (∀ q, q < s.1.length → isA s q (c q)) ∧ fus c s.1.length 0 = t := by
  obtain ⟨h1, h2, h3⟩ := h
  obtain ⟨c, y, c1, c2, c3⟩ := rcs_out _ _ _ _ h3
  have hy : y = 0 := of_decide_eq_true c2
  refine ⟨fun q => if q = e then pN (agE s e).1 j else c q, fun q hq => ?_, ?_⟩
  · by_cases z : q = e
    · rw [z]; show isA s e (if e = e then _ else _); rw [if_pos rfl]; exact ⟨j, hj, rfl⟩
    · show isA s q (if q = e then _ else _); rw [if_neg z]; exact c1 q (by omega) (by omega) z
  · rw [exs_in (e := e) s.1.length 0 (by omega) (by omega), exs_cg (d := c) s.1.length 0 (fun q _ _ n => if_neg n)]
    show exs e c s.1.length 0 + (if e = e then _ else _) = t
    rw [if_pos rfl]
    omega
theorem isA_lt {s : Sh} (ok : agOk s) {j n : Nat} (hj : j < s.1.length) (h : isA s j n) : n < 1000 := by
  obtain ⟨k, k1, k2⟩ := h
  rw [k2]
  exact (ok j hj k k1).1
theorem way_some {s : Sh} {t : Nat} (ok : agOk s) (h6 : s.1.length ≤ 6) (ht : s.2.2 = some t) (h0 : alt s s.1.length 0 0 = 0) {c : Nat → Nat} (h1 : ∀ q, q < s.1.length → isA s q (c q)) (h2 : fus c s.1.length 0 = t) : ∃ v, leastD s = some v := by
  have h3 := fus_le (c := c) s.1.length 0 (fun j _ b => isA_lt ok (show j < s.1.length by omega) (h1 j (by omega)))
  obtain ⟨v, hv⟩ := lsq_in (s := s) (c := c) s.1.length 0 (fun j _ b => h1 j (by omega))
  refine ⟨v, ?_⟩
  unfold leastD
  rw [if_pos h0, ht]
  simp only
  rw [if_neg (by omega), ← h2]
  exact hv
theorem sur_none {s : Sh} {e : Nat} (ok : agOk s) (h6 : s.1.length ≤ 6) (he : e < s.1.length) (h : leastD s = none) : sur s e = none := by
  unfold sur
  by_cases h0 : alt s s.1.length 0 0 = 0
  · rw [if_pos h0]
    cases ht : s.2.2 with
    | none =>
      unfold leastD at h
      rw [if_pos h0, ht] at h
      cases h
    | some t =>
      simp only
      cases hs : suL (agE s e).1 (rcs s e s.1.length 0 (fun x => decide (x = 0))) t (agE s e).1.length 0 none with
      | none => rfl
      | some v =>
        obtain ⟨j, j1, j2, j3, -⟩ := suL_n _ _ hs
        obtain ⟨c, c1, c2⟩ := sur_ways he (by omega) j3
        obtain ⟨w, hw⟩ := way_some ok h6 ht h0 c1 c2
        rw [h] at hw
        cases hw
  · rw [if_neg h0]
theorem sur_in {s : Sh} {v e t : Nat} (h : leastD s = some v) (ht : s.2.2 = some t) (he : e < s.1.length) {j : Nat} (hj : j < (agE s e).1.length) (hl : lnE s e = pN (agE s e).1 j) : rch (agE s e).1 (rcs s e s.1.length 0 (fun x => decide (x = 0))) t j := by
  obtain ⟨h0, -, -, h1, -⟩ := least_ok h
  obtain ⟨h2, h3⟩ := h1 t ht
  have a := fus_pfx (c := lnE s) s.1.length 0
  rw [Nat.zero_add, h2] at a
  have b := exs_in (e := e) (c := lnE s) s.1.length 0 (by omega) (by omega)
  have a' : t = fus (lnE s) s.1.length 0 := by rw [a]; show 0 + _ = _; omega
  have g := rcs_in (s := s) (e := e) (c := lnE s) s.1.length 0 (fun x => decide (x = 0)) 0 (fun q _ q2 _ => ln_at h (show q < s.1.length by omega)) (decide_eq_true rfl)
  refine ⟨by omega, by omega, ?_⟩
  rw [show t - pN (agE s e).1 j = 0 + exs e (lnE s) s.1.length 0 by omega]
  exact g
theorem sur_eq {s : Sh} {v e w : Nat} (h : leastD s = some v) (he : e < s.1.length) (hw : sur s e = some w) : w = lnE s e := by
  obtain ⟨h0, -, -, h1, h2⟩ := least_ok h
  obtain ⟨j, j1, j2⟩ := ln_at h he
  unfold sur at hw
  rw [if_pos h0] at hw
  cases ht : s.2.2 with
  | none =>
    rw [ht] at hw
    simp only at hw
    split at hw
    · cases hw
      rw [j2, show j = 0 by omega]
    · cases hw
  | some t =>
    rw [ht] at hw
    obtain ⟨k, k1, k2, k3, k4, k5⟩ := suL_n _ _ hw
    rw [k4, j2, k5 j (by omega) (by omega) (sur_in h ht he j1 j2)]
theorem sur_one {s : Sh} {v e : Nat} (h : leastD s = some v) (he : e < s.1.length) (h1 : (agE s e).1.length = 1) : sur s e = some (lnE s e) := by
  obtain ⟨h0, -, -, -, -⟩ := least_ok h
  obtain ⟨j, j1, j2⟩ := ln_at h he
  obtain rfl : j = 0 := by omega
  unfold sur
  rw [if_pos h0]
  cases ht : s.2.2 with
  | none =>
    simp only
    rw [if_pos h1, j2]
  | some t =>
    simp only
    rw [h1]
    unfold suL
    rw [if_pos (show pN (agE s e).1 0 ≤ t ∧ t - pN (agE s e).1 0 ≤ 5994 ∧ rcs s e s.1.length 0 (fun x => decide (x = 0)) (t - pN (agE s e).1 0) = true from sur_in h ht he j1 j2), j2]
    rfl
theorem none_end {s : Sh} (ok : agOk s) (h6 : s.1.length ≤ 6) (h : leastD s = none) : 0 < alt s s.1.length 0 0 ∨ ∃ t, s.2.2 = some t ∧ pfx (fnE s) s.1.length ≠ t := by
  by_cases h0 : alt s s.1.length 0 0 = 0
  · right
    cases ht : s.2.2 with
    | none =>
      unfold leastD at h
      rw [if_pos h0, ht] at h
      cases h
    | some t =>
      refine ⟨t, rfl, fun q => ?_⟩
      have a := fus_pfx (c := fnE s) s.1.length 0
      rw [Nat.zero_add, q] at a
      obtain ⟨v, hv⟩ := way_some (c := fnE s) ok h6 ht h0 (fun e he => ⟨rk (agE s e).1 0, (rk_ok (alt_pos h0 he)).2.1, by unfold fnE; rw [if_pos (alt_pos h0 he)]⟩) (by rw [a]; show _ = 0 + _; omega)
      rw [h] at hv
      cases hv
  · left; omega
