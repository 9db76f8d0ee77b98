/-! BEST TO MAKE OUT -/
def lIx (n p : Nat) : Option Nat := if p < (spN n).length ∧ 97 ≤ nA (spN n) p ∧ nA (spN n) p < 123 then some (nA (spN n) p - 97) else none
def mst (l : List (Nat × Nat)) (p : Nat) : Nat → Nat → (Nat → Nat) → Nat → Nat
  | 0, _, _, m => m
  | r + 1, k, c, m => match lIx (pN l k) p with
    | none => mst l p r (k + 1) c m
    | some q => mst l p r (k + 1) (uP c q (c q + 1)) (if m < c q + 1 then c q + 1 else m)
theorem m99_loop {X : smX} {F A N p : Nat} {a b ld} {w : Ag} (hA : A + 3 ≤ F + 12 ∨ F + 13 ≤ A) (hN : N + 3 ≤ F + 12) (hp : p < 2 ^ 31) : ∀ (d k : Nat), k + d = w.1.length → ∀ (h : smH) (f : Nat → Int32) (c : Nat → Nat) (m : Nat), FdO h F a b ld → AgrAt h A w → NWAt h N spN → IA h (F + 12) 26 f → (∀ q, q < 26 → f q = nI (c q) ∧ c q ≤ k) → m ≤ k → ∃ h', sm_E PP X 99 14 [(0, .ref F), (1, .ref A), (2, .int (nI p)), (3, .ref N), (4, .int (nI m)), (5, .int (nI k))] [] h = some (some (.int (nI (mst w.1 p d k c m))), h') ∧ (∃ f', IA h' (F + 12) 26 f') ∧ Fr h h' (F + 12) (F + 13) := by
  intro d
  induction d with
  | zero =>
    intro k hk h f c m ro rA rN rf hc hm
    have hl := rA.2.1
    refine ⟨h, ?_, ⟨f, rf⟩, Fr.rf⟩
    rw [b99_14]
    simp only [fO rA.1, sm_gI_s, sm_gR_s, sm_gJ_s, sm_cR_s, sm_al_s, sm_sw_s, sm_tl1, sm_tl0, sm_ap0, sm_ap1, List.getElem?_cons_zero, List.getElem?_cons_succ, nk10, nk11, if_true, eq_self]
    rw [if_pos (nI_le (by omega) (by omega))]
    rfl
  | succ d ih =>
    intro k hk h f c m ro rA rN rf hc hm
    have hl := rA.2.1
    have hb := rA.bd (i := k) (by omega)
    have hsp := spN_len hb.1
    rw [b99_14]
    simp only [fO rA.1, sm_gI_s, sm_gR_s, sm_gJ_s, sm_cR_s, sm_al_s, sm_sw_s, sm_tl1, sm_tl0, sm_ap0, sm_ap1, List.getElem?_cons_zero, List.getElem?_cons_succ, nk10, nk11, if_true, eq_self, vO rA.1, m77 rA (show k < w.1.length by omega), b99_30, vO rN.1, m17 rN hb.1 hp]
    rw [if_neg (nI_ge (by omega) (by omega))]
    have go : ∀ (h1 : smH) (f1 : Nat → Int32) (c1 : Nat → Nat) (m1 : Nat), Fr h h1 (F + 12) (F + 13) → IA h1 (F + 12) 26 f1 → (∀ q, q < 26 → f1 q = nI (c1 q) ∧ c1 q ≤ k + 1) → m1 ≤ k + 1 → mst w.1 p d (k + 1) c1 m1 = mst w.1 p (d + 1) k c m → ∃ h', sm_E PP X 99 76 [(0, .ref F), (1, .ref A), (2, .int (nI p)), (3, .ref N), (4, .int (nI m1)), (5, .int (nI k))] [] h1 = some (some (.int (nI (mst w.1 p (d + 1) k c m))), h') ∧ (∃ f', IA h' (F + 12) 26 f') ∧ Fr h h' (F + 12) (F + 13) := by
      intro h1 f1 c1 m1 k1 q1 g1 g2 g3
      obtain ⟨h2, e2, q2, k2⟩ := ih (k + 1) (by omega) h1 f1 c1 m1 (ro.fr k1 (by omega)) (rA.fr k1 (by omega)) (rN.fr k1 (by omega)) q1 g1 g2
      refine ⟨h2, ?_, q2, k1.s k2⟩
      rw [b99_76, nI_add, e2, g3]
    have un : lIx (pN w.1 k) p = none → mst w.1 p d (k + 1) c m = mst w.1 p (d + 1) k c m := fun e => by
      conv => rhs; unfold mst
      rw [e]
    have us : ∀ q, lIx (pN w.1 k) p = some q → mst w.1 p d (k + 1) (uP c q (c q + 1)) (if m < c q + 1 then c q + 1 else m) = mst w.1 p (d + 1) k c m := fun q e => by
      conv => rhs; unfold mst
      rw [e]
    have go0 := fun e => go h f c m Fr.rf rf (fun q hq => ⟨(hc q hq).1, by have := (hc q hq).2; omega⟩) (by omega) (un e)
    by_cases h1 : p < (spN (pN w.1 k)).length
    · have hlet := spN_let hb.1 h1
      rw [if_pos h1, b99_34]
      by_cases h2 : nA (spN (pN w.1 k)) p < 97
      · rw [if_pos (pk_sneg (by omega) h2)]
        exact go0 (by unfold lIx; rw [if_neg (by omega)])
      · rw [pk_sub (by omega), if_neg (nI_pos (by omega)), if_neg (nI_ge (by omega) (by omega))]
        have e : lIx (pN w.1 k) p = some (nA (spN (pN w.1 k)) p - 97) := by unfold lIx; rw [if_pos (by omega)]
        have hc1 := hc (nA (spN (pN w.1 k)) p - 97) (by omega)
        have k1 : Fr h (sm_w h (F + 12) (.inl (.int, 26, .inl (upd f (nA (spN (pN w.1 k)) p - 97) (nI (c (nA (spN (pN w.1 k)) p - 97) + 1)))))) (F + 12) (F + 13) := Fr.w
        have ro1 := ro.fr k1 (by omega)
        simp only [fO ro.1, sm_gI_s, sm_gR_s, sm_gJ_s, sm_cR_s, sm_al_s, sm_sw_s, sm_tl1, sm_tl0, sm_ap0, sm_ap1, List.getElem?_cons_zero, List.getElem?_cons_succ, nk10, nk11, if_true, eq_self, aO rf]
        rw [ldO (show nA (spN (pN w.1 k)) p - 97 < 26 by omega) (by omega), hc1.1, nI_add, stO rf (by omega) (by omega)]
        simp only [fO ro1.1, sm_gI_s, sm_gR_s, sm_gJ_s, sm_cR_s, sm_al_s, sm_sw_s, sm_tl1, sm_tl0, sm_ap0, sm_ap1, List.getElem?_cons_zero, List.getElem?_cons_succ, nk10, nk11, if_true, eq_self]
        rw [aO (w_eq : (sm_w h (F + 12) _).1 (F + 12) = _), ldO (show nA (spN (pN w.1 k)) p - 97 < 26 by omega) (by omega), pk_us]
        have eM : (if nI m < nI (c (nA (spN (pN w.1 k)) p - 97) + 1) then nI (c (nA (spN (pN w.1 k)) p - 97) + 1) else nI m) = nI (if m < c (nA (spN (pN w.1 k)) p - 97) + 1 then c (nA (spN (pN w.1 k)) p - 97) + 1 else m) := by
          simp only [nI_ltI (show m < 2 ^ 31 by omega) (show c (nA (spN (pN w.1 k)) p - 97) + 1 < 2 ^ 31 by omega)]
          split <;> rfl
        rw [eM]
        exact go _ (upd f (nA (spN (pN w.1 k)) p - 97) (nI (c (nA (spN (pN w.1 k)) p - 97) + 1))) (uP c (nA (spN (pN w.1 k)) p - 97) (c (nA (spN (pN w.1 k)) p - 97) + 1)) _ k1 w_eq (fun q hq => by
          by_cases e1 : q = nA (spN (pN w.1 k)) p - 97
          · rw [e1, pk_us, uP_eq]; exact ⟨rfl, by omega⟩
          · rw [pk_un e1, uP_ne e1]; exact ⟨(hc q hq).1, by have := (hc q hq).2; omega⟩) (by split <;> omega) (us _ e)
    · rw [if_neg h1, b99_34, if_pos (by decide)]
      exact go0 (by unfold lIx; rw [if_neg (by omega)])
def mstN (l : List (Nat × Nat)) (p : Nat) : Nat := mst l p l.length 0 (fun _ => 0) 0
theorem m99 {X : smX} {h : smH} {F A N p : Nat} {a b ld} {w : Ag} {f} (hA : A + 3 ≤ F + 12 ∨ F + 13 ≤ A) (hN : N + 3 ≤ F + 12) (hp : p < 2 ^ 31) (ro : FdO h F a b ld) (rA : AgrAt h A w) (rN : NWAt h N spN) (rf : IA h (F + 12) 26 f) : ∃ h', sm_C PP X 99 [.ref F, .ref A, .int (nI p), .ref N] h = some (some (.int (nI (mstN w.1 p))), h') ∧ (∃ f', IA h' (F + 12) 26 f') ∧ Fr h h' (F + 12) (F + 13) := by
  obtain ⟨h1, f1, e1, q1, g1, k1⟩ := m82 (X := X) (x := nI 0) (show 26 ≤ 10000 by omega) rf
  obtain ⟨h2, e2, q2, k2⟩ := m99_loop (X := X) hA hN hp w.1.length 0 (by omega) h1 f1 (fun _ => 0) 0 (ro.fr k1 (by omega)) (rA.fr k1 (by omega)) (rN.fr k1 (by omega)) q1 (fun q hq => ⟨g1 q hq, Nat.le_refl _⟩) (Nat.le_refl _)
  refine ⟨h2, ?_, q2, k1.s k2⟩
  rw [c99, b99_0]
  simp only [fO ro.1, sm_gI_s, sm_gR_s, sm_gJ_s, sm_cR_s, sm_al_s, sm_sw_s, sm_tl1, sm_tl0, sm_ap0, sm_ap1, List.getElem?_cons_zero, List.getElem?_cons_succ, nk10, nk11, if_true, eq_self, e1, b99_8]
  exact e2
theorem mst_le {l : List (Nat × Nat)} {p : Nat} : ∀ (d k : Nat) (c : Nat → Nat) (m : Nat), (∀ q, c q ≤ k) → m ≤ k → mst l p d k c m ≤ k + d := by
  intro d
  induction d with
  | zero => intro k c m h1 h2; exact h2
  | succ d ih =>
    intro k c m h1 h2
    unfold mst
    split
    · have := ih (k + 1) c m (fun q => by have := h1 q; omega) (by omega); omega
    · rename_i q e
      have := ih (k + 1) (uP c q (c q + 1)) (if m < c q + 1 then c q + 1 else m) (fun j => by
        have := h1 j
        have := h1 q
        unfold uP
        split <;> omega) (by have := h1 q; split <;> omega)
      omega
def bpl (ws : List Nat) (l : List (Nat × Nat)) : Nat → Nat → Option Nat → Nat → Option Nat
  | 0, _, o, _ => o
  | r + 1, p, o, fw => if nA ws p = 63 then (if o = none ∨ mstN l p < fw then bpl ws l r (p + 1) (some p) (mstN l p) else bpl ws l r (p + 1) o fw) else bpl ws l r (p + 1) o fw
theorem m100_loop {X : smX} {F A N w cap : Nat} {a b ld} {ws : List Nat} {v : Ag} (hA : A + 3 ≤ F + 12 ∨ F + 13 ≤ A) (hN : N + 3 ≤ F + 12) (hw : w + 2 ≤ F + 12) : ∀ (d p : Nat), p + d = ws.length → ∀ (h : smH) (o : Option Nat) (fw : Nat), FdO h F a b ld → AgrAt h A v → NWAt h N spN → RowAt h w cap ws → (∃ f, IA h (F + 12) 26 f) → (∀ q, o = some q → q < p) → fw ≤ 1000 → ∃ h', sm_E PP X 100 10 [(0, .ref F), (1, .ref w), (2, .ref A), (3, .ref N), (4, .int (oI o)), (5, .int (nI fw)), (6, .int (nI p))] [] h = some (some (.int (oI (bpl ws v.1 d p o fw))), h') ∧ (∃ f', IA h' (F + 12) 26 f') ∧ Fr h h' (F + 12) (F + 13) := by
  intro d
  induction d with
  | zero =>
    intro p hp h o fw ro rA rN rw1 rf ho hfw
    have h31 := rw1.2.1
    refine ⟨h, ?_, rf, Fr.rf⟩
    rw [b100_10]
    simp only [fO rw1.1, sm_gI_s, sm_gR_s, sm_gJ_s, sm_cR_s, sm_al_s, sm_sw_s, sm_tl1, sm_tl0, sm_ap0, sm_ap1, List.getElem?_cons_zero, List.getElem?_cons_succ, nk10, nk11, if_true, eq_self]
    rw [if_pos (nI_le (by omega) (by omega))]
    rfl
  | succ d ih =>
    intro p hp h o fw ro rA rN rw1 rf ho hfw
    have h31 := rw1.2.1
    have hA2 := rw1.2.1.2.2 p
    have hl := rA.2.1
    have ho2 : (oI o = -nI 9) = (o = none) := oI_none (fun k hk => by have := ho k hk; omega)
    rw [b100_10]
    simp only [fO rw1.1, sm_gI_s, sm_gR_s, sm_gJ_s, sm_cR_s, sm_al_s, sm_sw_s, sm_tl1, sm_tl0, sm_ap0, sm_ap1, List.getElem?_cons_zero, List.getElem?_cons_succ, nk10, nk11, if_true, eq_self, vO rw1.1, m37k rw1 (show p < ws.length by omega), b100_25, vO ro.1, nI_eq (show nA ws p < 2 ^ 31 by omega) (show 63 < 2 ^ 31 by omega)]
    rw [if_neg (nI_ge (by omega) (by omega))]
    unfold bpl
    by_cases h1 : nA ws p = 63
    · rw [if_pos h1, if_pos h1]
      obtain ⟨f, rf⟩ := rf
      obtain ⟨h2, e2, q2, k2⟩ := m99 (X := X) (p := p) hA hN (by omega) ro rA rN rf
      have hm : mstN v.1 p ≤ 1000 := by
        have := mst_le (l := v.1) (p := p) v.1.length 0 (fun _ => 0) 0 (fun _ => Nat.le_refl _) (Nat.le_refl _)
        unfold mstN
        omega
      rw [e2]
      simp only [sm_gI_s, sm_gR_s, sm_gJ_s, sm_cR_s, sm_al_s, sm_sw_s, sm_tl1, sm_tl0, sm_ap0, sm_ap1, List.getElem?_cons_zero, List.getElem?_cons_succ, nk10, nk11, if_true, eq_self, b100_38, ho2, b100_54, b100_62, nI_add]
      have go := fun (o2 : Option Nat) (fw2 : Nat) (g1 : ∀ q, o2 = some q → q < p + 1) (g2 : fw2 ≤ 1000) => ih (p + 1) (by omega) h2 o2 fw2 (ro.fr k2 (by omega)) (rA.fr k2 (by omega)) (rN.fr k2 (by omega)) (rw1.fr k2 (by omega)) q2 g1 g2
      by_cases h2 : o = none
      · rw [if_pos h2, if_pos (Or.inl h2)]
        obtain ⟨h3, e3, q3, k3⟩ := go (some p) (mstN v.1 p) (fun q hq => by cases hq; omega) hm
        exact ⟨h3, e3, q3, k2.s k3⟩
      · rw [if_neg h2]
        by_cases h3 : mstN v.1 p < fw
        · rw [if_neg (nI_ge h3 (by omega)), if_pos (Or.inr h3)]
          obtain ⟨h3, e3, q3, k3⟩ := go (some p) (mstN v.1 p) (fun q hq => by cases hq; omega) hm
          exact ⟨h3, e3, q3, k2.s k3⟩
        · rw [if_pos (nI_le (by omega) (by omega)), if_neg (fun q => by rcases q with q | q; exact h2 q; exact h3 q)]
          obtain ⟨h3, e3, q3, k3⟩ := go o fw (fun q hq => by have := ho q hq; omega) hfw
          exact ⟨h3, e3, q3, k2.s k3⟩
    · rw [if_neg h1, if_neg h1, b100_62, nI_add]
      exact ih (p + 1) (by omega) h o fw ro rA rN rw1 rf (fun q hq => by have := ho q hq; omega) hfw
/-- bestPlace -/
theorem m100 {X : smX} {h : smH} {F N w cap e : Nat} {L : Bool} {s : Sh} {ws : List Nat} (r : FdAt h F true L s) (h6 : s.1.length ≤ 6) (he : e < s.1.length) (rN : NWAt h N spN) (hN : N + 3 ≤ F + 12) (rw1 : RowAt h w cap ws) (hw : w + 2 ≤ F) : ∃ h', sm_C PP X 100 [.ref F, .ref w, .ref (F + 13 + 3 * e), .ref N] h = some (some (.int (oI (bpl ws (agE s e).1 ws.length 0 none 0))), h') ∧ FdAt h' F true L s ∧ Fr h h' F (F + 31) := by
  obtain ⟨ld, W, a, b⟩ := r
  have rA := a.2.2.1 e (by omega)
  rw [a.2.2.2 rfl e he] at rA
  obtain ⟨h', e1, ⟨f', q1⟩, k1⟩ := m100_loop (X := X) (Or.inr (show F + 13 ≤ F + 13 + 3 * e by omega)) hN (show w + 2 ≤ F + 12 by omega) ws.length 0 (by omega) h none 0 a.1 rA rN rw1 a.2.1.2.2.2 (fun q hq => by cases hq) (by omega)
  refine ⟨h', ?_, ⟨ld, W, ⟨a.1.fr k1 (by omega), ⟨fun i hi => ⟨_, (a.2.1.1 i hi).choose_spec.fr k1 (by omega)⟩, ⟨_, a.2.1.2.1.choose_spec.fr k1 (by omega)⟩, ⟨_, BA.fr a.2.1.2.2.1.choose_spec k1 (by omega)⟩, f', q1⟩, a.2.2.1.fr k1 (by omega), a.2.2.2⟩, fun hL => ?_⟩, k1.mono (by omega) (by omega)⟩
  · rw [c100, b100_0]
    exact e1
  · obtain ⟨b1, b2, f, b3, b4⟩ := b hL
    exact ⟨b1, b2, f, b3.fr k1 (by omega), b4⟩
