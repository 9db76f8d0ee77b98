/-! SURE -/
def BA (h : smH) (a n : Nat) (f : Nat → Int32) : Prop := h.1 a = some (.inl (.boolean, n, .inl f))
theorem BA.fr {h h' : smH} {a n lo hi : Nat} {f} (r : BA h a n f) (k : Fr h h' lo hi) (hd : a < lo ∨ hi ≤ a) : BA h' a n f := (k.2 _ (by omega)).trans r
theorem nb0 : vp_nar .boolean (nI 0) = bI false := by decide
theorem nb1 : vp_nar .boolean (nI 1) = bI true := by decide
theorem nbb (b : Bool) : vp_nar .boolean (bI b) = bI b := by cases b <;> decide
theorem nkb (b : Bool) : narrow (sm_nk 1) (.int (bI b)) = .int (bI b) := by cases b <;> decide
theorem m93n {X : smX} {h : smH} {F : Nat} {x : Int32} (hx : x < 0) : sm_C PP X 93 [.ref F, .int x] h = some (some (.int (bI false)), h) := by
  rw [c93, b93_0, if_pos hx, b93_24, b93_25, if_pos nk10]
  rfl
theorem m93o {X : smX} {h : smH} {F y : Nat} (hy : 5994 < y) (hy2 : y < 2 ^ 31) : sm_C PP X 93 [.ref F, .int (nI y)] h = some (some (.int (bI false)), h) := by
  rw [c93, b93_0, if_neg (nI_pos hy2), if_pos (nI_lt hy hy2), b93_24, b93_25, if_pos nk10]
  rfl
theorem m93k {X : smX} {h : smH} {F y : Nat} {a b ld} {f} {c : Bool} (ro : FdO h F a b ld) (hf : BA h (F + 11) 5995 f) (hy : y ≤ 5994) (hc : f y = bI c) : sm_C PP X 93 [.ref F, .int (nI y)] h = some (some (.int (bI c)), h) := by
  rw [c93, b93_0, if_neg (nI_pos (by omega)), if_neg (nI_nlt hy (by omega))]
  simp only [fO ro.1, sm_gI_s, sm_gR_s, sm_gJ_s, sm_cR_s, sm_al_s, sm_sw_s, sm_tl1, sm_tl0, sm_ap0, sm_ap1, List.getElem?_cons_zero, List.getElem?_cons_succ, nk10, nk11, if_true, eq_self]
  rw [aO hf, ldO (by omega) (by omega), hc]
  cases c with
  | false => rw [if_pos (show bI false = 0 from rfl), b93_24, b93_25, if_pos nk10]; rfl
  | true => rw [if_neg (by decide), b93_25, if_pos nk11]; rfl
def rby (l : List (Nat × Nat)) (R : Nat → Bool) (x : Nat) : Nat → Nat → Bool
  | 0, _ => false
  | r + 1, k => if pN l k ≤ x ∧ R (x - pN l k) = true then true else rby l R x r (k + 1)
theorem m94_loop {X : smX} {h : smH} {F A x : Nat} {a b ld} {f} {w : Ag} {R : Nat → Bool} (ro : FdO h F a b ld) (rA : AgrAt h A w) (hf : BA h (F + 11) 5995 f) (hx : x ≤ 5994) (hR : ∀ y, y ≤ x → f y = bI (R y)) : ∀ (d k : Nat), k + d = w.1.length → sm_E PP X 94 2 [(0, .ref F), (1, .ref A), (2, .int (nI x)), (3, .int (nI k))] [] h = some (some (.int (bI (rby w.1 R x d k))), h) := by
  intro d
  have hl := rA.2.1
  induction d with
  | zero =>
    intro k hk
    rw [b94_2]
    simp only [fO rA.1, sm_gI_s, sm_gR_s, sm_gJ_s, sm_cR_s, sm_al_s, sm_sw_s, sm_tl1, sm_tl0, sm_ap0, sm_ap1, List.getElem?_cons_zero, List.getElem?_cons_succ, nk10, nk11, if_true, eq_self]
    rw [if_pos (nI_le (by omega) (by omega))]
    rfl
  | succ d ih =>
    intro k hk
    have hb := rA.bd (i := k) (by omega)
    rw [b94_2]
    simp only [fO rA.1, sm_gI_s, sm_gR_s, sm_gJ_s, sm_cR_s, sm_al_s, sm_sw_s, sm_tl1, sm_tl0, sm_ap0, sm_ap1, List.getElem?_cons_zero, List.getElem?_cons_succ, nk10, nk11, if_true, eq_self, vO rA.1, m77 rA (show k < w.1.length by omega), b94_17, vO ro.1]
    rw [if_neg (nI_ge (by omega) (by omega))]
    unfold rby
    by_cases h1 : pN w.1 k ≤ x
    · rw [pk_sub h1, m93k ro hf (by omega) (hR _ (by omega))]
      simp only [sm_gI_s, sm_gR_s, sm_gJ_s, sm_cR_s, sm_al_s, sm_sw_s, sm_tl1, sm_tl0, sm_ap0, sm_ap1, List.getElem?_cons_zero, List.getElem?_cons_succ, nk10, nk11, if_true, eq_self, b94_21, nI_add, bI_0]
      cases e : R (x - pN w.1 k) with
      | true => rw [if_neg (show ¬ (true = false) by decide), if_pos ⟨h1, rfl⟩]; rfl
      | false =>
        rw [if_pos rfl, if_neg (fun q => by cases q.2)]
        exact ih (k + 1) (by omega)
    · rw [m93n (pk_sneg (by omega) (by omega)), if_neg (fun q => h1 q.1)]
      simp only [sm_gI_s, sm_gR_s, sm_gJ_s, sm_cR_s, sm_al_s, sm_sw_s, sm_tl1, sm_tl0, sm_ap0, sm_ap1, List.getElem?_cons_zero, List.getElem?_cons_succ, nk10, nk11, if_true, eq_self, b94_21, nI_add, bI_0]
      exact ih (k + 1) (by omega)
theorem m94 {X : smX} {h : smH} {F A x : Nat} {a b ld} {f} {w : Ag} {R : Nat → Bool} (ro : FdO h F a b ld) (rA : AgrAt h A w) (hf : BA h (F + 11) 5995 f) (hx : x ≤ 5994) (hR : ∀ y, y ≤ x → f y = bI (R y)) : sm_C PP X 94 [.ref F, .ref A, .int (nI x)] h = some (some (.int (bI (rby w.1 R x w.1.length 0))), h) := by
  rw [c94, b94_0]
  exact m94_loop ro rA hf hx hR w.1.length 0 (by omega)
theorem m95_loop {X : smX} {F A : Nat} {a b ld} {w : Ag} {R : Nat → Bool} (hA : A + 3 ≤ F + 11 ∨ F + 12 ≤ A) : ∀ (p : Nat), p ≤ 5995 → ∀ (h : smH) (f : Nat → Int32), FdO h F a b ld → AgrAt h A w → BA h (F + 11) 5995 f → (∀ y, y < p → f y = bI (R y)) → ∃ h' f', sm_E PP X 95 8 [(0, .ref F), (1, .ref A), (3, .int (nI p + -nI 1))] [] h = some (none, h') ∧ BA h' (F + 11) 5995 f' ∧ (∀ y, y < p → f' y = bI (rby w.1 R y w.1.length 0)) ∧ (∀ y, p ≤ y → f' y = f y) ∧ Fr h h' (F + 11) (F + 12) := by
  intro p
  induction p with
  | zero =>
    intro hp h f ro rA hf hR
    refine ⟨h, f, ?_, hf, fun y hy => by omega, fun y hy => rfl, Fr.rf⟩
    rw [b95_8, if_pos (by decide)]
  | succ p ih =>
    intro hp h f ro rA hf hR
    have k1 : Fr h (sm_w h (F + 11) (.inl (.boolean, 5995, .inl (upd f p (bI (rby w.1 R p w.1.length 0)))))) (F + 11) (F + 12) := Fr.w
    obtain ⟨h2, f2, e2, q2, g2, g3, k2⟩ := ih (by omega) _ (upd f p (bI (rby w.1 R p w.1.length 0))) (ro.fr k1 (by omega)) (rA.fr k1 (by omega)) w_eq (fun y hy => by rw [pk_un (by omega)]; exact hR y (by omega))
    refine ⟨h2, f2, ?_, q2, fun y hy => ?_, fun y hy => ?_, k1.s k2⟩
    · rw [b95_8, pk_m1', if_neg (nI_pos (by omega))]
      simp only [fO ro.1, sm_gI_s, sm_gR_s, sm_gJ_s, sm_cR_s, sm_al_s, sm_sw_s, sm_tl1, sm_tl0, sm_ap0, sm_ap1, List.getElem?_cons_zero, List.getElem?_cons_succ, nk10, nk11, if_true, eq_self, vO ro.1, m94 ro rA hf (show p ≤ 5994 by omega) (fun y hy => hR y (by omega)), b95_23, nbb]
      rw [stO hf (by omega) (by omega)]
      exact e2
    · by_cases e : y = p
      · rw [g3 y (by omega), e, pk_us]
      · exact g2 y (by omega)
    · rw [g3 y (by omega), pk_un (by omega)]
theorem m95 {X : smX} {h : smH} {F A hg : Nat} {a b ld} {f} {w : Ag} {R : Nat → Bool} (hA : A + 3 ≤ F + 11 ∨ F + 12 ≤ A) (hh : hg ≤ 5994) (ro : FdO h F a b ld) (rA : AgrAt h A w) (hf : BA h (F + 11) 5995 f) (hR : ∀ y, y ≤ hg → f y = bI (R y)) : ∃ h' f', sm_C PP X 95 [.ref F, .ref A, .int (nI hg)] h = some (none, h') ∧ BA h' (F + 11) 5995 f' ∧ (∀ y, y ≤ hg → f' y = bI (rby w.1 R y w.1.length 0)) ∧ (∀ y, hg < y → f' y = f y) ∧ Fr h h' (F + 11) (F + 12) := by
  obtain ⟨h', f', e, q, g1, g2, k⟩ := m95_loop (X := X) hA (hg + 1) (by omega) h f ro rA hf (fun y hy => hR y (by omega))
  rw [pk_m1'] at e
  refine ⟨h', f', ?_, q, fun y hy => g1 y (by omega), fun y hy => g2 y (by omega), k⟩
  rw [c95, b95_0, if_neg (nI_nlt hh (by omega))]
  exact e
/-- the sums to which all ENTRIES but e come -/
def rcs (s : Sh) (e : Nat) : Nat → Nat → (Nat → Bool) → (Nat → Bool)
  | 0, _, R => R
  | r + 1, i, R => if i = e then rcs s e r (i + 1) R else rcs s e r (i + 1) (fun x => rby (agE s i).1 R x (agE s i).1.length 0)
theorem rby_ex {l : List (Nat × Nat)} {R : Nat → Bool} {x : Nat} : ∀ r k : Nat, rby l R x r k = true → ∃ j, k ≤ j ∧ j < k + r ∧ pN l j ≤ x ∧ R (x - pN l j) = true := by
  intro r
  induction r with
  | zero => intro k h; cases h
  | succ r ih =>
    intro k h
    unfold rby at h
    split at h
    · rename_i q
      exact ⟨k, by omega, by omega, q.1, q.2⟩
    · obtain ⟨j, a, b, c⟩ := ih (k + 1) h
      exact ⟨j, by omega, by omega, c⟩
theorem m96_loop {X : smX} {F e t M : Nat} {a b ld} {W} {s : Sh} (h6 : s.1.length ≤ 6) (ok : agOk s) (hW : ∀ p, p < s.1.length → W p = agE s p) (ht : t ≤ 9999) (hM : M = if 5994 < t then 5994 else t) (he : e < s.1.length) : ∀ (d i hg : Nat), i + d = s.1.length → hg ≤ M → ∀ (h : smH) (f : Nat → Int32) (R : Nat → Bool), FdO h F a b ld → AgS h F W → BA h (F + 11) 5995 f → (∀ y, y ≤ M → f y = bI (R y)) → (∀ y, y ≤ M → R y = true → y ≤ hg) → ∃ h' f', sm_E PP X 96 42 [(0, .ref F), (1, .int (nI e)), (2, .int (nI s.1.length)), (3, .int (nI t)), (4, .int (nI hg)), (5, .int (nI i))] [] h = some (none, h') ∧ BA h' (F + 11) 5995 f' ∧ (∀ y, y ≤ M → f' y = bI (rcs s e d i R y)) ∧ Fr h h' (F + 11) (F + 12) := by
  intro d
  induction d with
  | zero =>
    intro i hg hi hh h f R ro ra rf hR hT
    refine ⟨h, f, ?_, rf, hR, Fr.rf⟩
    rw [b96_42, if_pos (nI_le (by omega) (by omega)), b96_105]
  | succ d ih =>
    intro i hg hi hh h f R ro ra rf hR hT
    have hM6 : M ≤ 5994 := by rw [hM]; split <;> omega
    rw [b96_42, if_neg (nI_ge (by omega) (by omega)), if_neg (nI_ge (by omega) (by omega))]
    unfold rcs
    by_cases hie : i = e
    · rw [if_pos (by rw [hie]), if_pos hie, b96_99, nI_add]
      exact ih (i + 1) hg (by omega) hh h f R ro ra rf hR hT
    · rw [if_neg (fun q => hie ((nI_eq (by omega) (by omega)).mp q)), if_neg hie]
      have rA := ra i (by omega)
      rw [hW i (by omega)] at rA
      have hT2 := top_lt ok (e := i) (by omega)
      have eM : (if nI 5994 < nI t then nI 5994 else nI t) = nI M := by
        rw [hM]
        simp only [nI_ltI (show 5994 < 2 ^ 31 by omega) (show t < 2 ^ 31 by omega)]
        split <;> rfl
      have eH : (if nI M < nI (hg + top (agE s i).1) then nI M else nI (hg + top (agE s i).1)) = nI (if M < hg + top (agE s i).1 then M else hg + top (agE s i).1) := by
        simp only [nI_ltI (show M < 2 ^ 31 by omega) (show hg + top (agE s i).1 < 2 ^ 31 by omega)]
        split <;> rfl
      have hH : (if M < hg + top (agE s i).1 then M else hg + top (agE s i).1) ≤ M := by split <;> omega
      obtain ⟨h1, f1, e1, q1, g1, g2, k1⟩ := m95 (X := X) (hg := if M < hg + top (agE s i).1 then M else hg + top (agE s i).1) (Or.inr (show F + 12 ≤ F + 13 + 3 * i by omega)) (by omega) ro rA rf (fun y hy => hR y (by omega))
      have bnd : ∀ y, y ≤ M → rby (agE s i).1 R y (agE s i).1.length 0 = true → y ≤ if M < hg + top (agE s i).1 then M else hg + top (agE s i).1 := by
        intro y hy hr
        obtain ⟨j, j1, j2, j3, j4⟩ := rby_ex _ _ hr
        have := hT _ (by omega) j4
        have := ag_top (s := s) (e := i) (k := j) (by omega)
        split <;> omega
      obtain ⟨h2, f2, e2, q2, g3, k2⟩ := ih (i + 1) _ (by omega) hH h1 f1 (fun x => rby (agE s i).1 R x (agE s i).1.length 0) (ro.fr k1 (by omega)) (ra.fr k1 (by omega)) q1 (fun y hy => by
        by_cases hy2 : y ≤ if M < hg + top (agE s i).1 then M else hg + top (agE s i).1
        · exact g1 y hy2
        · rw [g2 y (by omega), hR y hy]
          have r1 : R y = false := by
            cases e0 : R y with
            | false => rfl
            | true => exact absurd (by have := hT y hy e0; split <;> omega) hy2
          have r2 : rby (agE s i).1 R y (agE s i).1.length 0 = false := by
            cases e0 : rby (agE s i).1 R y (agE s i).1.length 0 with
            | false => rfl
            | true => exact absurd (bnd y hy e0) hy2
          show _ = bI (rby (agE s i).1 R y (agE s i).1.length 0)
          rw [r1, r2]) bnd
      refine ⟨h2, f2, ?_, q2, g3, k1.s k2⟩
      simp only [fO ro.1, sm_gI_s, sm_gR_s, sm_gJ_s, sm_cR_s, sm_al_s, sm_sw_s, sm_tl1, sm_tl0, sm_ap0, sm_ap1, List.getElem?_cons_zero, List.getElem?_cons_succ, nk10, nk11, if_true, eq_self, ro.ag (show i < 6 by omega), vO rA.1, m83 rA, b96_73, vO ro.1, nI_add, eM, eH]
      rw [e1]
      simp only [sm_gI_s, sm_gR_s, sm_gJ_s, sm_cR_s, sm_al_s, sm_sw_s, sm_tl1, sm_tl0, sm_ap0, sm_ap1, List.getElem?_cons_zero, List.getElem?_cons_succ, nk10, nk11, if_true, eq_self, b96_99, nI_add]
      exact e2
theorem m96_fill {X : smX} {F a b ld} {x1 x2 x3 : Int32} : ∀ (d i : Nat), i + d = 5995 → ∀ (h : smH) (f : Nat → Int32), FdO h F a b ld → BA h (F + 11) 5995 f → (∀ j, j < i → f j = bI (decide (j = 0))) → ∃ h' f', sm_E PP X 96 3 [(0, .ref F), (1, .int x1), (2, .int x2), (3, .int x3), (4, .int (nI i))] [] h = sm_E PP X 96 42 [(0, .ref F), (1, .int x1), (2, .int x2), (3, .int x3), (4, .int (nI 0)), (5, .int (nI 0))] [] h' ∧ BA h' (F + 11) 5995 f' ∧ (∀ j, j < 5995 → f' j = bI (decide (j = 0))) ∧ Fr h h' (F + 11) (F + 12) := by
  intro d
  induction d with
  | zero =>
    intro i hi h f ro ha hf
    refine ⟨h, f, ?_, ha, fun j hj => hf j (by omega), Fr.rf⟩
    rw [b96_3]
    simp only [fO ro.1, sm_gI_s, sm_gR_s, sm_gJ_s, sm_cR_s, sm_al_s, sm_sw_s, sm_tl1, sm_tl0, sm_ap0, sm_ap1, List.getElem?_cons_zero, List.getElem?_cons_succ, nk10, nk11, if_true, eq_self]
    rw [aO ha, sm_al_s, if_pos (nI_le (by omega) (by omega))]
  | succ d ih =>
    intro i hi h f ro ha hf
    have k1 : Fr h (sm_w h (F + 11) (.inl (.boolean, 5995, .inl (upd f i (bI (decide (i = 0))))))) (F + 11) (F + 12) := Fr.w
    obtain ⟨h', f', e, r, q, k⟩ := ih (i + 1) (by omega) _ (upd f i (bI (decide (i = 0)))) (ro.fr k1 (by omega)) w_eq (fun j hj => by
      by_cases e : j = i
      · rw [e, pk_us]
      · rw [pk_un e]; exact hf j (by omega))
    refine ⟨h', f', ?_, r, q, k1.s k⟩
    rw [b96_3]
    simp only [fO ro.1, sm_gI_s, sm_gR_s, sm_gJ_s, sm_cR_s, sm_al_s, sm_sw_s, sm_tl1, sm_tl0, sm_ap0, sm_ap1, List.getElem?_cons_zero, List.getElem?_cons_succ, nk10, nk11, if_true, eq_self]
    rw [aO ha, sm_al_s, if_neg (nI_ge (by omega) (by omega))]
    by_cases e0 : i = 0
    · rw [if_pos (show nI i = 0 by rw [e0]; rfl), b96_29, nb1, stO ha (by omega) (by omega), nI_add]
      rw [decide_eq_true e0] at e
      exact e
    · rw [if_neg (nI_ne0 (by omega) (by omega)), b96_29, nb0, stO ha (by omega) (by omega), nI_add]
      rw [decide_eq_false e0] at e
      exact e
theorem m96 {X : smX} {h : smH} {F e t M : Nat} {ld} {W} {l} {s : Sh} (r : FdK h F true ld W l s) (h6 : s.1.length ≤ 6) (ht : t ≤ 9999) (hM : M = if 5994 < t then 5994 else t) (he : e < s.1.length) : ∃ h' f', sm_C PP X 96 [.ref F, .int (nI e), .int (nI s.1.length), .int (nI t)] h = some (none, h') ∧ BA h' (F + 11) 5995 f' ∧ (∀ y, y ≤ M → f' y = bI (rcs s e s.1.length 0 (fun x => decide (x = 0)) y)) ∧ Fr h h' (F + 11) (F + 12) := by
  have ok := r.ok h6
  obtain ⟨f, rf⟩ := r.2.1.2.2.1
  obtain ⟨h1, f1, e1, q1, g1, k1⟩ := m96_fill (X := X) (x1 := nI e) (x2 := nI s.1.length) (x3 := nI t) 5995 0 (by omega) h f r.1 (show BA h (F + 11) 5995 f from rf) (fun j hj => by omega)
  obtain ⟨h2, f2, e2, q2, g2, k3⟩ := m96_loop (X := X) h6 ok (r.2.2.2 rfl) ht hM he s.1.length 0 0 (by omega) (by omega) h1 f1 (fun x => decide (x = 0)) (r.1.fr k1 (by omega)) (r.2.2.1.fr k1 (by omega)) q1 (fun y hy => g1 y (by rw [hM] at hy; split at hy <;> omega)) (fun y hy hy2 => by have := of_decide_eq_true hy2; omega)
  refine ⟨h2, f2, ?_, q2, g2, k1.s k3⟩
  rw [c96, b96_0, e1]
  exact e2
def suL (l : List (Nat × Nat)) (R : Nat → Bool) (t : Nat) : Nat → Nat → Option Nat → Option Nat
  | 0, _, f => f
  | r + 1, k, f => if pN l k ≤ t ∧ t - pN l k ≤ 5994 ∧ R (t - pN l k) = true then (match f with
    | some _ => none
    | none => suL l R t r (k + 1) (some (pN l k))) else suL l R t r (k + 1) f
def sur (s : Sh) (e : Nat) : Option Nat := if alt s s.1.length 0 0 = 0 then (match s.2.2 with
  | none => if (agE s e).1.length = 1 then some (pN (agE s e).1 0) else none
  | some t => suL (agE s e).1 (rcs s e s.1.length 0 (fun x => decide (x = 0))) t (agE s e).1.length 0 none) else none
theorem m97_loop {X : smX} {h : smH} {F A t : Nat} {a b ld} {f} {w : Ag} {R : Nat → Bool} (ro : FdO h F a b ld) (rA : AgrAt h A w) (hf : BA h (F + 11) 5995 f) (ht : t ≤ 9999) (hR : ∀ y, y ≤ t → y ≤ 5994 → f y = bI (R y)) : ∀ (d k : Nat) (o : Option Nat), k + d = w.1.length → (∀ v, o = some v → v < 1000) → sm_E PP X 97 59 [(0, .ref F), (3, .int (nI t)), (4, .ref A), (5, .int (oI o)), (6, .int (nI k))] [] h = some (some (.int (oI (suL w.1 R t d k o))), h) := by
  intro d
  have hl := rA.2.1
  induction d with
  | zero =>
    intro k o hk ho
    rw [b97_59]
    simp only [fO rA.1, sm_gI_s, sm_gR_s, sm_gJ_s, sm_cR_s, sm_al_s, sm_sw_s, sm_tl1, sm_tl0, sm_ap0, sm_ap1, List.getElem?_cons_zero, List.getElem?_cons_succ, nk10, nk11, if_true, eq_self]
    rw [if_pos (nI_le (by omega) (by omega))]
    rfl
  | succ d ih =>
    intro k o hk ho
    have hb := rA.bd (i := k) (by omega)
    rw [b97_59]
    simp only [fO rA.1, sm_gI_s, sm_gR_s, sm_gJ_s, sm_cR_s, sm_al_s, sm_sw_s, sm_tl1, sm_tl0, sm_ap0, sm_ap1, List.getElem?_cons_zero, List.getElem?_cons_succ, nk10, nk11, if_true, eq_self, vO rA.1, m77 rA (show k < w.1.length by omega), b97_78, vO ro.1]
    rw [if_neg (nI_ge (by omega) (by omega))]
    unfold suL
    have no : sm_E PP X 97 82 [(0, .ref F), (3, .int (nI t)), (4, .ref A), (5, .int (oI o)), (6, .int (nI k))] [.int (bI false)] h = some (some (.int (oI (suL w.1 R t d (k + 1) o))), h) := by
      rw [b97_82, if_pos (show bI false = 0 from rfl), b97_104, nI_add]
      exact ih (k + 1) o (by omega) ho
    by_cases h1 : pN w.1 k ≤ t
    · rw [pk_sub h1]
      by_cases h2 : t - pN w.1 k ≤ 5994
      · rw [m93k ro hf h2 (hR _ (by omega) h2)]
        simp only [sm_gI_s, sm_gR_s, sm_gJ_s, sm_cR_s, sm_al_s, sm_sw_s, sm_tl1, sm_tl0, sm_ap0, sm_ap1, List.getElem?_cons_zero, List.getElem?_cons_succ, nk10, nk11, if_true, eq_self]
        cases e : R (t - pN w.1 k) with
        | true =>
          rw [if_pos ⟨h1, h2, rfl⟩, b97_82, if_neg (show ¬ bI true = 0 by decide)]
          simp only [oI_none ho, vO rA.1, m77 rA (show k < w.1.length by omega), sm_gI_s, sm_gR_s, sm_gJ_s, sm_cR_s, sm_al_s, sm_sw_s, sm_tl1, sm_tl0, sm_ap0, sm_ap1, List.getElem?_cons_zero, List.getElem?_cons_succ, nk10, nk11, if_true, eq_self, b97_102, b97_104, nI_add]
          cases o with
          | none =>
            rw [if_pos rfl]
            exact ih (k + 1) (some (pN w.1 k)) (by omega) (fun v hv => by cases hv; exact hb.1)
          | some v =>
            rw [if_neg (by intro q; cases q)]
            rfl
        | false =>
          rw [if_neg (fun q => by cases q.2.2)]
          exact no
      · rw [m93o (by omega) (by omega), if_neg (fun q => h2 q.2.1)]
        simp only [sm_gI_s, sm_gR_s, sm_gJ_s, sm_cR_s, sm_al_s, sm_sw_s, sm_tl1, sm_tl0, sm_ap0, sm_ap1, List.getElem?_cons_zero, List.getElem?_cons_succ, nk10, nk11, if_true, eq_self]
        exact no
    · rw [m93n (pk_sneg (by omega) (by omega)), if_neg (fun q => h1 q.1)]
      simp only [sm_gI_s, sm_gR_s, sm_gJ_s, sm_cR_s, sm_al_s, sm_sw_s, sm_tl1, sm_tl0, sm_ap0, sm_ap1, List.getElem?_cons_zero, List.getElem?_cons_succ, nk10, nk11, if_true, eq_self]
      exact no
/-- sureNumber -/
theorem m97 {X : smX} {h : smH} {F e : Nat} {L : Bool} {s : Sh} (r : FdAt h F true L s) (hb : SBd s) (he : e < s.1.length) : ∃ h', sm_C PP X 97 [.ref F, .int (nI e), .int (nI s.1.length), .int (oI s.2.2)] h = some (some (.int (oI (sur s e))), h') ∧ FdAt h' F true L s ∧ Fr h h' F (F + 31) := by
  have h6 := hb.1
  have r0 := r
  obtain ⟨ld, W, a, b⟩ := r
  have rA := a.2.2.1 e (by omega)
  rw [a.2.2.2 rfl e he] at rA
  have hl := rA.2.1
  have hz2 := (alt_le (s := s) s.1.length 0 0).2
  simp only [c97, b97_0, vO a.1.1, m80 a h6, sm_gI_s, sm_gR_s, sm_gJ_s, sm_cR_s, sm_al_s, sm_sw_s, sm_tl1, sm_tl0, sm_ap0, sm_ap1, List.getElem?_cons_zero, List.getElem?_cons_succ, nk10, nk11, if_true, eq_self, b97_5, m69 a.1 (show e < 6 by omega), b97_16, fO rA.1, vO rA.1]
  unfold sur
  by_cases hz : alt s s.1.length 0 0 = 0
  · rw [if_pos hz, hz, if_pos (show (nI 0 : Int32) ≤ 0 by decide)]
    cases eT : s.2.2 with
    | none =>
      rw [if_pos (show oI none = -nI 9 from rfl)]
      by_cases h1 : (agE s e).1.length = 1
      · rw [if_pos (by rw [h1]), m77 rA (by omega)]
        simp only [sm_gI_s, sm_gR_s, sm_gJ_s, sm_cR_s, sm_al_s, sm_sw_s, sm_tl1, sm_tl0, sm_ap0, sm_ap1, List.getElem?_cons_zero, List.getElem?_cons_succ, nk10, nk11, if_true, eq_self, b97_39, b97_44]
        exact ⟨h, by rw [if_pos h1]; rfl, r0, Fr.rf⟩
      · rw [if_neg (fun q => h1 ((nI_eq (by omega) (by omega)).mp q)), b97_44]
        exact ⟨h, by dsimp only; rw [if_neg h1]; rfl, r0, Fr.rf⟩
    | some t =>
      have ht := hb.2.2 t eT
      obtain ⟨h1, f1, e1, q1, g1, k1⟩ := m96 (X := X) (e := e) a h6 ht rfl he
      rw [if_neg (show ¬ oI (some t) = -nI 9 from neg9_ne (by omega)), show oI (some t) = nI t from rfl, e1]
      simp only [sm_gI_s, sm_gR_s, sm_gJ_s, sm_cR_s, sm_al_s, sm_sw_s, sm_tl1, sm_tl0, sm_ap0, sm_ap1, List.getElem?_cons_zero, List.getElem?_cons_succ, nk10, nk11, if_true, eq_self, b97_52]
      have el := m97_loop (X := X) (R := rcs s e s.1.length 0 (fun x => decide (x = 0))) (a.1.fr k1 (by omega)) (rA.fr k1 (by omega)) q1 ht (fun y hy hy2 => g1 y (by split <;> omega)) (agE s e).1.length 0 none (by omega) (fun v hv => by cases hv)
      refine ⟨h1, el, ⟨ld, W, ⟨a.1.fr k1 (by omega), ⟨fun i hi => ⟨_, (a.2.1.1 i hi).choose_spec.fr k1 (by omega)⟩, ⟨_, a.2.1.2.1.choose_spec.fr k1 (by omega)⟩, ⟨f1, q1⟩, _, a.2.1.2.2.2.choose_spec.fr k1 (by omega)⟩, a.2.2.1.fr k1 (by omega), a.2.2.2⟩, fun hL => ?_⟩, k1.mono (by omega) (by omega)⟩
      obtain ⟨b1, b2, f, b3, b4⟩ := b hL
      exact ⟨b1, b2, f, b3.fr k1 (by omega), b4⟩
  · rw [if_neg hz, if_neg (show ¬ nI (alt s s.1.length 0 0) ≤ 0 from nI_nle (by omega) (by omega))]
    exact ⟨h, rfl, r0, Fr.rf⟩
