/-! class Findings: what is held -/
def IA (h : smH) (a n : Nat) (f : Nat → Int32) : Prop := h.1 a = some (.inl (.int, n, .inl f))
theorem IA.fr {h h' : smH} {a n lo hi : Nat} {f} (r : IA h a n f) (k : Fr h h' lo hi) (hd : a < lo ∨ hi ≤ a) : IA h' a n f := (k.2 _ (by omega)).trans r
def FdO (h : smH) (F : Nat) (k l ld : Int32) : Prop := h.1 F = some (.inr (1, [.ref (F + 1), .int k, .ref (F + 2), .ref (F + 10), .int ld, .int l, .ref (F + 11), .ref (F + 12)])) ∧
  (∃ ty f, ty.isReference = true ∧ h.1 (F + 1) = some (.inl (ty, 6, .inr (.inr (.inr (.inr f))))) ∧ ∀ i, i < 6 → f i = some (F + 13 + 3 * i)) ∧
  (∃ ty f, ty.isReference = true ∧ h.1 (F + 2) = some (.inl (ty, 7, .inr (.inr (.inr (.inr f))))) ∧ ∀ i, i < 7 → f i = some (F + 3 + i))
theorem FdO.fr {h h' : smH} {F lo hi : Nat} {k l ld} (r : FdO h F k l ld) (f : Fr h h' lo hi) (hd : F + 3 ≤ lo ∨ hi ≤ F) : FdO h' F k l ld := by
  obtain ⟨a, ⟨ty, g, b1, b2, b3⟩, ty2, g2, c1, c2, c3⟩ := r
  exact ⟨by rw [f.2 _ (by omega)]; exact a, ⟨ty, g, b1, by rw [f.2 _ (by omega)]; exact b2, b3⟩, ty2, g2, c1, by rw [f.2 _ (by omega)]; exact c2, c3⟩
theorem FdO.put {h h' : smH} {F : Nat} {k l ld k2 l2 ld2} (r : FdO h F k l ld) (f : Fr h h' F (F + 1)) (hh : h'.1 F = some (.inr (1, [.ref (F + 1), .int k2, .ref (F + 2), .ref (F + 10), .int ld2, .int l2, .ref (F + 11), .ref (F + 12)]))) : FdO h' F k2 l2 ld2 := by
  obtain ⟨a, ⟨ty, g, b1, b2, b3⟩, ty2, g2, c1, c2, c3⟩ := r
  exact ⟨hh, ⟨ty, g, b1, by rw [f.2 _ (by omega)]; exact b2, b3⟩, ty2, g2, c1, by rw [f.2 _ (by omega)]; exact c2, c3⟩
theorem FdO.ag {X : smX} {h : smH} {F : Nat} {k l ld} (r : FdO h F k l ld) {i : Nat} (hi : i < 6) {κ : Nat → smR} : sm_ldR (sm_ar PP X h (.ref (F + 1))) (nI i) κ = κ (F + 13 + 3 * i) := by
  obtain ⟨-, ⟨ty, f, b1, b2, b3⟩, -⟩ := r
  rw [aO b2, ldR b1 hi (by omega) (b3 i hi)]
theorem FdO.lb {X : smX} {h : smH} {F : Nat} {k l ld} (r : FdO h F k l ld) {i : Nat} (hi : i < 7) {κ : Nat → smR} : sm_ldR (sm_ar PP X h (.ref (F + 2))) (nI i) κ = κ (F + 3 + i) := by
  obtain ⟨-, -, ty, f, b1, b2, b3⟩ := r
  rw [aO b2, ldR b1 hi (by omega) (b3 i hi)]
/-- the rows that calls write over -/
def FdS (h : smH) (F : Nat) : Prop := (∀ i, i < 7 → ∃ f, IA h (F + 3 + i) 5995 f) ∧ (∃ f, IA h (F + 10) 6 f) ∧ (∃ f, h.1 (F + 11) = some (.inl (.boolean, 5995, .inl f))) ∧ ∃ f, IA h (F + 12) 26 f
theorem FdS.fr {h h' : smH} {F lo hi : Nat} (r : FdS h F) (f : Fr h h' lo hi) (hd : F + 13 ≤ lo ∨ hi ≤ F + 3) : FdS h' F := by
  obtain ⟨a, ⟨f1, b⟩, ⟨f2, c⟩, f3, d⟩ := r
  exact ⟨fun i hi => ⟨(a i hi).choose, (a i hi).choose_spec.fr f (by omega)⟩, ⟨f1, b.fr f (by omega)⟩, ⟨f2, (f.2 _ (by omega)).trans c⟩, f3, d.fr f (by omega)⟩
def AgS (h : smH) (F : Nat) (W : Nat → Ag) : Prop := ∀ e, e < 6 → AgrAt h (F + 13 + 3 * e) (W e)
theorem AgS.fr {h h' : smH} {F lo hi : Nat} {W} (r : AgS h F W) (f : Fr h h' lo hi) (hd : F + 31 ≤ lo ∨ hi ≤ F + 13) : AgS h' F W := fun e he => (r e he).fr f (by omega)
theorem AgS.set {h h' : smH} {F i : Nat} {W} {w : Ag} (r : AgS h F W) (hw : AgrAt h' (F + 13 + 3 * i) w) (f : Fr h h' (F + 13 + 3 * i) (F + 13 + 3 * i + 3)) : AgS h' F (uP W i w) := by
  intro j hj
  by_cases e : j = i
  · subst e
    rw [uP_eq]
    exact hw
  · rw [uP_ne e]
    exact (r j hj).fr f (by omega)
/-- the least DOUBT of all, the NUMBERS of the LEAST way: given below -/
def FdK (h : smH) (F : Nat) (K : Bool) (ld : Int32) (W : Nat → Ag) (l : Bool) (s : Sh) : Prop := FdO h F (bI K) (bI l) ld ∧ FdS h F ∧ AgS h F W ∧ (K = true → ∀ e, e < s.1.length → W e = agE s e)
theorem nf11 (v : Nat) (hv : v = 0 ∨ v = 1) : narrow (PP.2.1 1 1) (.int (nI v)) = .int (nI v) ∧ fits (PP.2.1 1 1) (.int (nI v)) = true := by
  rcases hv with rfl | rfl <;> exact ⟨by decide +kernel, by decide +kernel⟩
theorem nf15 (v : Nat) (hv : v = 0 ∨ v = 1) : narrow (PP.2.1 1 5) (.int (nI v)) = .int (nI v) ∧ fits (PP.2.1 1 5) (.int (nI v)) = true := by
  rcases hv with rfl | rfl <;> exact ⟨by decide +kernel, by decide +kernel⟩
/-- forget -/
theorem m42 {X : smX} {h : smH} {F : Nat} {K l : Bool} {ld : Int32} {W} {s s2 : Sh} (r : FdK h F K ld W l s) : ∃ h', sm_C PP X 42 [.ref F] h = some (none, h') ∧ FdK h' F false ld W false s2 ∧ Fr h h' F (F + 1) := by
  obtain ⟨a, b, c, d⟩ := r
  have g1 : (sm_w h F (.inr (1, [.ref (F + 1), .int (nI 0), .ref (F + 2), .ref (F + 10), .int ld, .int (bI l), .ref (F + 11), .ref (F + 12)]))).1 F = _ := w_eq
  have k : Fr h (sm_w (sm_w h F (.inr (1, [.ref (F + 1), .int (nI 0), .ref (F + 2), .ref (F + 10), .int ld, .int (bI l), .ref (F + 11), .ref (F + 12)]))) F (.inr (1, [.ref (F + 1), .int (nI 0), .ref (F + 2), .ref (F + 10), .int ld, .int (nI 0), .ref (F + 11), .ref (F + 12)]))) F (F + 1) := Fr.w.s Fr.w
  refine ⟨_, ?_, ⟨a.put k w_eq, b.fr k (by omega), c.fr k (by omega), fun h => by cases h⟩, k⟩
  rw [c42, b42_0, if_pos (nf11 0 (Or.inl rfl)), pO a.1 (by show 1 < 8; omega), if_pos (nf15 0 (Or.inl rfl))]
  simp only [List.set]
  rw [pO g1 (by show 5 < 8; omega)]
  rfl
theorem m68_loop {X : smX} {S F N : Nat} {l : Bool} {ld : Int32} {s : Sh} (d1 : S + 27 ≤ F) (d2 : N + 3 ≤ F) : ∀ (d i : Nat), i + d = s.1.length → ∀ (h : smH) (W : Nat → Ag), FdO h F (bI false) (bI l) ld → FdS h F → AgS h F W → (∀ j, j < i → W j = agE s j) → SheetAt h S s → NWAt h N spN → ∃ h' W', sm_E PP X 68 10 [(0, .ref F), (1, .ref S), (2, .ref N), (3, .int (nI i))] [] h = some (none, h') ∧ FdK h' F true ld W' l s ∧ Fr h h' F (F + 31) := by
  intro d
  induction d with
  | zero =>
    intro i hi h W a b c e rs rN
    have h6 := rs.2.1.1
    have k : Fr h (sm_w h F (.inr (1, [.ref (F + 1), .int (nI 1), .ref (F + 2), .ref (F + 10), .int ld, .int (bI l), .ref (F + 11), .ref (F + 12)]))) F (F + 1) := Fr.w
    refine ⟨_, W, ?_, ⟨a.put k w_eq, b.fr k (by omega), c.fr k (by omega), fun _ e' he' => e e' (by omega)⟩, k.mono (by omega) (by omega)⟩
    rw [b68_10]
    simp only [sm_gI_s, sm_gR_s, sm_gJ_s, sm_cR_s, sm_al_s, sm_sw_s, sm_tl1, sm_tl0, sm_ap0, sm_ap1, List.getElem?_cons_zero, List.getElem?_cons_succ, nk10, nk11, if_true, eq_self, fO rs.1.1]
    rw [if_pos (nI_le (by omega) (by omega)), b68_56, if_pos (nf11 1 (Or.inr rfl)), pO a.1 (by show 1 < 8; omega)]
    rfl
  | succ d ih =>
    intro i hi h W a b c e rs rN
    have h6 := rs.2.1.1
    have hsl := rs.2.1.2.1
    obtain ⟨ro, hb, V, rr, hV⟩ := id rs
    have r1 := rr i (by omega)
    rw [hV i (by omega)] at r1
    obtain ⟨h1, e1, q1, f1⟩ := m67 (X := X) hsl (Or.inl (show S + 2 + 2 * i + 2 ≤ F + 13 + 3 * i by omega)) (Or.inl (show S + 15 + 2 * i + 2 ≤ F + 13 + 3 * i by omega)) (Or.inl (show N + 3 ≤ F + 13 + 3 * i by omega)) (Nat.le_refl 31) (Nat.le_refl 3) (c i (by omega)) r1.1 r1.2 rN
    obtain ⟨h2, W2, e2, q2, f2⟩ := ih (i + 1) (by omega) h1 _ (a.fr f1 (by omega)) (b.fr f1 (by omega)) (c.set q1 f1) (fun j hj => by
      by_cases e0 : j = i
      · subst e0; rw [uP_eq]; rfl
      · rw [uP_ne e0]; exact e j (by omega)) (rs.fr f1 (by omega)) (rN.fr f1 (by omega))
    refine ⟨h2, W2, ?_, q2, f1.tr f2 (by omega) (by omega) (by omega) (by omega)⟩
    rw [b68_10]
    simp only [sm_gI_s, sm_gR_s, sm_gJ_s, sm_cR_s, sm_al_s, sm_sw_s, sm_tl1, sm_tl0, sm_ap0, sm_ap1, List.getElem?_cons_zero, List.getElem?_cons_succ, nk10, nk11, if_true, eq_self, fO ro.1, fO a.1, a.ag (show i < 6 by omega), ro.w (show i < 6 by omega), ro.f (show i < 6 by omega), vO (c i (by omega)).1, e1, b68_50, nI_add, e2]
    rw [if_neg (nI_ge (by omega) (by omega)), if_neg (nI_ge (by omega) (by omega))]
/-- refresh -/
theorem m68 {X : smX} {h : smH} {S F N : Nat} {K l : Bool} {ld : Int32} {W} {s : Sh} (d1 : S + 27 ≤ F) (d2 : N + 3 ≤ F) (r : FdK h F K ld W l s) (rs : SheetAt h S s) (rN : NWAt h N spN) : ∃ h' W', sm_C PP X 68 [.ref F, .ref S, .ref N] h = some (none, h') ∧ FdK h' F true ld W' l s ∧ Fr h h' F (F + 31) ∧ (K = true → h' = h) := by
  rw [c68, b68_0]
  simp only [fO r.1.1, sm_gI_s, sm_gR_s, sm_gJ_s, sm_cR_s, sm_al_s, sm_sw_s, sm_tl1, sm_tl0, sm_ap0, sm_ap1, List.getElem?_cons_zero, List.getElem?_cons_succ, nk10, nk11, if_true, eq_self]
  cases K with
  | true =>
    rw [if_neg (by decide)]
    exact ⟨h, W, rfl, r, Fr.rf, fun _ => rfl⟩
  | false =>
    rw [if_pos (by decide)]
    obtain ⟨a, b, c, d⟩ := r
    obtain ⟨h', W', e, q, f⟩ := m68_loop (X := X) d1 d2 s.1.length 0 (by omega) h W a b c (fun j hj => by omega) rs rN
    exact ⟨h', W', e, q, f, fun h => by cases h⟩
theorem m69 {X : smX} {h : smH} {F e : Nat} {k l ld} (r : FdO h F k l ld) (he : e < 6) : sm_C PP X 69 [.ref F, .int (nI e)] h = some (some (.ref (F + 13 + 3 * e)), h) := by
  rw [c69, b69_0]
  simp only [fO r.1, sm_gI_s, sm_gR_s, sm_gJ_s, sm_cR_s, sm_al_s, sm_sw_s, sm_tl1, sm_tl0, sm_ap0, sm_ap1, List.getElem?_cons_zero, List.getElem?_cons_succ, nk10, nk11, if_true, eq_self]
  rw [if_neg (nI_pos (by omega)), if_neg (nI_ge he (by omega)), b69_19, r.ag he]
/-- how many are ALTERED -/
def alt (s : Sh) : Nat → Nat → Nat → Nat
  | 0, _, a => a
  | r + 1, i, a => if (agE s i).1.length = 0 then alt s r (i + 1) (a + 1) else alt s r (i + 1) a
theorem m80_loop {X : smX} {h : smH} {F : Nat} {l : Bool} {ld : Int32} {W} {s : Sh} (r : FdK h F true ld W l s) (h6 : s.1.length ≤ 6) : ∀ (d i a : Nat), i + d = s.1.length → sm_E PP X 80 4 [(0, .ref F), (1, .int (nI s.1.length)), (2, .int (nI a)), (3, .int (nI i))] [] h = some (some (.int (nI (alt s d i a))), h) := by
  intro d
  obtain ⟨ra, rb, rc, rd⟩ := r
  induction d with
  | zero =>
    intro i a hi
    rw [b80_4, if_pos (nI_le (by omega) (by omega)), b80_36]
    rfl
  | succ d ih =>
    intro i a hi
    have hw := rc i (by omega)
    have hl := hw.2.1
    rw [rd rfl i (by omega)] at hw hl
    rw [b80_4, if_neg (nI_ge (by omega) (by omega)), if_neg (nI_ge (by omega) (by omega))]
    simp only [fO ra.1, sm_gI_s, sm_gR_s, sm_gJ_s, sm_cR_s, sm_al_s, sm_sw_s, sm_tl1, sm_tl0, sm_ap0, sm_ap1, List.getElem?_cons_zero, List.getElem?_cons_succ, nk10, nk11, if_true, eq_self, ra.ag (show i < 6 by omega), fO hw.1, b80_30, nI_add]
    unfold alt
    by_cases hz : (agE s i).1.length = 0
    · rw [if_pos hz, hz, if_pos (by decide)]
      exact ih (i + 1) (a + 1) (by omega)
    · rw [if_neg hz, if_neg (nI_ne0 (by omega) (by omega))]
      exact ih (i + 1) a (by omega)
theorem m80 {X : smX} {h : smH} {F : Nat} {l : Bool} {ld : Int32} {W} {s : Sh} (r : FdK h F true ld W l s) (h6 : s.1.length ≤ 6) : sm_C PP X 80 [.ref F, .int (nI s.1.length)] h = some (some (.int (nI (alt s s.1.length 0 0))), h) := by
  rw [c80, b80_0]
  exact m80_loop r h6 s.1.length 0 0 (by omega)
theorem alt_le {s : Sh} : ∀ d i a : Nat, a ≤ alt s d i a ∧ alt s d i a ≤ a + d := by
  intro d
  induction d with
  | zero => intro i a; exact ⟨Nat.le_refl _, Nat.le_refl _⟩
  | succ d ih =>
    intro i a
    unfold alt
    split
    · have := ih (i + 1) (a + 1); omega
    · have := ih (i + 1) a; omega
theorem alt_0 {s : Sh} : ∀ d i a : Nat, alt s d i a = 0 → ∀ j, i ≤ j → j < i + d → 0 < (agE s j).1.length := by
  intro d
  induction d with
  | zero => intro i a h j h1 h2; omega
  | succ d ih =>
    intro i a h j h1 h2
    unfold alt at h
    split at h
    · have := alt_le (s := s) d (i + 1) (a + 1); omega
    · rename_i hz
      by_cases e : j = i
      · subst e; omega
      · exact ih (i + 1) a h j (by omega) (by omega)
