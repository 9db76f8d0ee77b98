/-! class Sheet -/
def uP {α : Type} (f : Nat → α) (k : Nat) (x : α) : Nat → α := fun j => if j = k then x else f j
theorem uP_eq {α : Type} {f : Nat → α} {k : Nat} {x : α} : uP f k x k = x := if_pos rfl
theorem uP_ne {α : Type} {f : Nat → α} {k j : Nat} {x : α} (h : j ≠ k) : uP f k x j = f j := if_neg h
/-- ENTRIES, SLACK, TOTAL -/
abbrev Sh := List (List Nat × List Nat) × Nat × Option Nat
def en (s : Sh) (i : Nat) : List Nat × List Nat := s.1.getD i ([], [])
def RowsW (h : smH) (S : Nat) (W : Nat → List Nat × List Nat) : Prop := ∀ i, i < 6 → RowAt h (S + 2 + 2 * i) 31 (W i).1 ∧ RowAt h (S + 15 + 2 * i) 3 (W i).2
def SObj (h : smH) (S n sl : Nat) (to : Option Nat) : Prop := h.1 S = some (.inr (5, [.ref (S + 1), .ref (S + 14), .int (nI n), .int (nI sl), .int (oI to)])) ∧
  (∃ ty f, ty.isReference = true ∧ h.1 (S + 1) = some (.inl (ty, 6, .inr (.inr (.inr (.inr f))))) ∧ ∀ i, i < 6 → f i = some (S + 2 + 2 * i)) ∧
  (∃ ty f, ty.isReference = true ∧ h.1 (S + 14) = some (.inl (ty, 6, .inr (.inr (.inr (.inr f))))) ∧ ∀ i, i < 6 → f i = some (S + 15 + 2 * i))
def SBd (s : Sh) : Prop := s.1.length ≤ 6 ∧ s.2.1 ≤ 2 ∧ ∀ t, s.2.2 = some t → t ≤ 9999
def SheetAt (h : smH) (S : Nat) (s : Sh) : Prop := SObj h S s.1.length s.2.1 s.2.2 ∧ SBd s ∧ ∃ W, RowsW h S W ∧ ∀ i, i < s.1.length → W i = en s i
theorem RowsW.fr {h h' : smH} {S lo hi : Nat} {W} (r : RowsW h S W) (f : Fr h h' lo hi) (hd : S + 27 ≤ lo ∨ hi ≤ S + 2) : RowsW h' S W :=
  fun i hi6 => ⟨(r i hi6).1.fr f (by omega), (r i hi6).2.fr f (by omega)⟩
theorem RowsW.ob {h h' : smH} {S : Nat} {W} (r : RowsW h S W) (f : Fr h h' S (S + 1)) : RowsW h' S W :=
  fun i hi6 => ⟨(r i hi6).1.fr f (by omega), (r i hi6).2.fr f (by omega)⟩
theorem SObj.fr {h h' : smH} {S n sl lo hi : Nat} {to} (r : SObj h S n sl to) (f : Fr h h' lo hi) (h0 : S < lo ∨ hi ≤ S) (h1 : S + 1 < lo ∨ hi ≤ S + 1) (h2 : S + 14 < lo ∨ hi ≤ S + 14) : SObj h' S n sl to := by
  obtain ⟨a, ⟨ty, g, b1, b2, b3⟩, ty2, g2, c1, c2, c3⟩ := r
  exact ⟨by rw [f.2 _ (by omega)]; exact a, ⟨ty, g, b1, by rw [f.2 _ (by omega)]; exact b2, b3⟩, ty2, g2, c1, by rw [f.2 _ (by omega)]; exact c2, c3⟩
theorem SheetAt.fr {h h' : smH} {S lo hi : Nat} {s : Sh} (r : SheetAt h S s) (f : Fr h h' lo hi) (hd : S + 27 ≤ lo ∨ hi ≤ S) : SheetAt h' S s := by
  obtain ⟨a, b, W, c, d⟩ := r
  exact ⟨a.fr f (by omega) (by omega) (by omega), b, W, c.fr f (by omega), d⟩
theorem RowsW.setW {h h' : smH} {S i : Nat} {W} {w : List Nat} (r : RowsW h S W) (hi : i < 6) (hw : RowAt h' (S + 2 + 2 * i) 31 w) (f : Fr h h' (S + 2 + 2 * i) (S + 2 + 2 * i + 2)) : RowsW h' S (uP W i (w, (W i).2)) := by
  intro j hj
  by_cases e : j = i
  · subst e
    rw [uP_eq]
    exact ⟨hw, (r j hj).2.fr f (by omega)⟩
  · rw [uP_ne e]
    exact ⟨(r j hj).1.fr f (by omega), (r j hj).2.fr f (by omega)⟩
theorem RowsW.setF {h h' : smH} {S i : Nat} {W} {w : List Nat} (r : RowsW h S W) (hi : i < 6) (hw : RowAt h' (S + 15 + 2 * i) 3 w) (f : Fr h h' (S + 15 + 2 * i) (S + 15 + 2 * i + 2)) : RowsW h' S (uP W i ((W i).1, w)) := by
  intro j hj
  by_cases e : j = i
  · subst e
    rw [uP_eq]
    exact ⟨(r j hj).1.fr f (by omega), hw⟩
  · rw [uP_ne e]
    exact ⟨(r j hj).1.fr f (by omega), (r j hj).2.fr f (by omega)⟩
/-- reading a row's reference -/
theorem SObj.w {X : smX} {h : smH} {S n sl : Nat} {to} (r : SObj h S n sl to) {i : Nat} (hi : i < 6) {κ : Nat → smR} : sm_ldR (sm_ar PP X h (.ref (S + 1))) (nI i) κ = κ (S + 2 + 2 * i) := by
  obtain ⟨-, ⟨ty, f, b1, b2, b3⟩, -⟩ := r
  rw [aO b2, ldR b1 hi (by omega) (b3 i hi)]
theorem SObj.f {X : smX} {h : smH} {S n sl : Nat} {to} (r : SObj h S n sl to) {i : Nat} (hi : i < 6) {κ : Nat → smR} : sm_ldR (sm_ar PP X h (.ref (S + 14))) (nI i) κ = κ (S + 15 + 2 * i) := by
  obtain ⟨-, -, ty, f, b1, b2, b3⟩ := r
  rw [aO b2, ldR b1 hi (by omega) (b3 i hi)]
theorem SObj.put {h h' : smH} {S n sl n2 sl2 : Nat} {to to2} (r : SObj h S n sl to) (f : Fr h h' S (S + 1)) (hh : h'.1 S = some (.inr (5, [.ref (S + 1), .ref (S + 14), .int (nI n2), .int (nI sl2), .int (oI to2)]))) : SObj h' S n2 sl2 to2 := by
  obtain ⟨-, ⟨ty, g, b1, b2, b3⟩, ty2, g2, c1, c2, c3⟩ := r
  exact ⟨hh, ⟨ty, g, b1, by rw [f.2 _ (by omega)]; exact b2, b3⟩, ty2, g2, c1, by rw [f.2 _ (by omega)]; exact c2, c3⟩
theorem m48 {X : smX} {h : smH} {S n sl : Nat} {to} (r : SObj h S n sl to) (hn : n ≤ 6) (x : Int32) : sm_C PP X 48 [.ref S, .int x] h = some (some (.int (if 0 ≤ x.toInt ∧ x.toInt < n then nI 1 else nI 0)), h) := by
  simp only [c48, b48_0, b48_22, b48_23, sm_gI_s, sm_gR_s, sm_gJ_s, sm_cR_s, sm_al_s, sm_sw_s, sm_tl1, sm_tl0, sm_ap0, sm_ap1, List.getElem?_cons_zero, List.getElem?_cons_succ, nk10, nk11, if_true, eq_self, fO r.1, i_lt, i_le, i_0, nI_toInt (show n < 2 ^ 31 by omega), nI_toInt (show 6 < 2 ^ 31 by omega)]
  split
  · rw [if_neg (by omega)]
  · split
    · rw [if_neg (by omega)]
    · rw [if_neg (by omega), if_pos (by omega)]
theorem m48k {X : smX} {h : smH} {S n sl : Nat} {to} (r : SObj h S n sl to) (hn : n ≤ 6) {e : Nat} (he : e < n) : sm_C PP X 48 [.ref S, .int (nI e)] h = some (some (.int (nI 1)), h) := by
  rw [m48 r hn, nI_toInt (by omega), if_pos (by omega)]
theorem m51w {X : smX} {h : smH} {S n sl : Nat} {to} (r : SObj h S n sl to) (hn : n ≤ 6) {e : Nat} (he : e < n) : sm_C PP X 51 [.ref S, .int (nI e), .int (nI 0)] h = some (some (.ref (S + 2 + 2 * e)), h) := by
  simp only [c51, b51_0, b51_5, b51_17, b51_38, sm_gI_s, sm_gR_s, sm_gJ_s, sm_cR_s, sm_al_s, sm_sw_s, sm_tl1, sm_tl0, sm_ap0, sm_ap1, List.getElem?_cons_zero, List.getElem?_cons_succ, nk10, nk11, if_true, eq_self, vO r.1, m48k r hn he, fO r.1]
  rw [if_neg (by decide), if_neg (by decide), if_pos (by decide), if_pos (by decide), r.w (by omega)]
theorem m51f {X : smX} {h : smH} {S n sl : Nat} {to} (r : SObj h S n sl to) (hn : n ≤ 6) {e : Nat} (he : e < n) : sm_C PP X 51 [.ref S, .int (nI e), .int (nI 1)] h = some (some (.ref (S + 15 + 2 * e)), h) := by
  simp only [c51, b51_0, b51_5, b51_17, b51_38, sm_gI_s, sm_gR_s, sm_gJ_s, sm_cR_s, sm_al_s, sm_sw_s, sm_tl1, sm_tl0, sm_ap0, sm_ap1, List.getElem?_cons_zero, List.getElem?_cons_succ, nk10, nk11, if_true, eq_self, vO r.1, m48k r hn he, fO r.1]
  rw [if_neg (by decide), if_neg (by decide), if_pos (by decide), if_neg (by decide), r.f (by omega)]
theorem m51n {X : smX} {h : smH} {S n sl : Nat} {to} (r : SObj h S n sl to) (hn : n ≤ 6) {x y : Int32} (hx : ¬ (0 ≤ x.toInt ∧ x.toInt < n ∧ 0 ≤ y.toInt ∧ y.toInt ≤ 1)) : sm_C PP X 51 [.ref S, .int x, .int y] h = some (some .null, h) := by
  simp only [c51, b51_0, b51_5, b51_17, b51_38, sm_gI_s, sm_gR_s, sm_gJ_s, sm_cR_s, sm_al_s, sm_sw_s, sm_tl1, sm_tl0, sm_ap0, sm_ap1, List.getElem?_cons_zero, List.getElem?_cons_succ, nk10, nk11, if_true, eq_self, vO r.1, m48 r hn, i_lt, i_le, i_0, nI_toInt (show 1 < 2 ^ 31 by omega)]
  by_cases h1 : 0 ≤ x.toInt ∧ x.toInt < n
  · rw [if_pos h1, if_neg (by decide)]
    by_cases h2 : y.toInt < 0
    · rw [if_pos h2]
    · rw [if_neg h2, if_neg (by omega)]
  · rw [if_neg h1, if_pos (by decide)]
theorem m61w {X : smX} {h : smH} {S : Nat} {s : Sh} (r : SheetAt h S s) {e : Nat} (he : e < s.1.length) : sm_C PP X 61 [.ref S, .int (nI e), .int (nI 0)] h = some (some (.int (nI (en s e).1.length)), h) := by
  obtain ⟨ro, hb, W, rw1, hW⟩ := r
  have h6 := hb.1
  have rr := (rw1 e (by omega)).1
  rw [hW e he] at rr
  simp only [c61, b61_0, b61_6, b61_6_1, b61_19, sm_gI_s, sm_gR_s, sm_gJ_s, sm_cR_s, sm_al_s, sm_sw_s, sm_tl1, sm_tl0, sm_ap0, sm_ap1, List.getElem?_cons_zero, List.getElem?_cons_succ, nk10, nk11, if_true, eq_self, vO ro.1, m51w ro hb.1 he, fO rr.1]
theorem m61f {X : smX} {h : smH} {S : Nat} {s : Sh} (r : SheetAt h S s) {e : Nat} (he : e < s.1.length) : sm_C PP X 61 [.ref S, .int (nI e), .int (nI 1)] h = some (some (.int (nI (en s e).2.length)), h) := by
  obtain ⟨ro, hb, W, rw1, hW⟩ := r
  have h6 := hb.1
  have rr := (rw1 e (by omega)).2
  rw [hW e he] at rr
  simp only [c61, b61_0, b61_6, b61_6_1, b61_19, sm_gI_s, sm_gR_s, sm_gJ_s, sm_cR_s, sm_al_s, sm_sw_s, sm_tl1, sm_tl0, sm_ap0, sm_ap1, List.getElem?_cons_zero, List.getElem?_cons_succ, nk10, nk11, if_true, eq_self, vO ro.1, m51f ro hb.1 he, fO rr.1]
def wornE (p : List Nat × List Nat) : Nat := p.1.count 63 + p.2.count 63
theorem m55 {X : smX} {h : smH} {S : Nat} {s : Sh} (r : SheetAt h S s) {e : Nat} (he : e < s.1.length) : sm_C PP X 55 [.ref S, .int (nI e)] h = some (some (.int (nI (wornE (en s e)))), h) := by
  obtain ⟨ro, hb, W, rw1, hW⟩ := r
  have h6 := hb.1
  have rr := rw1 e (by omega)
  rw [hW e he] at rr
  simp only [c55, b55_0, b55_5, b55_31, b55_17, b55_26, sm_gI_s, sm_gR_s, sm_gJ_s, sm_cR_s, sm_al_s, sm_sw_s, sm_tl1, sm_tl0, sm_ap0, sm_ap1, List.getElem?_cons_zero, List.getElem?_cons_succ, nk10, nk11, if_true, eq_self, vO ro.1, m48k ro hb.1 he, fO ro.1, ro.w (show e < 6 by omega), ro.f (show e < 6 by omega), vO rr.1.1, vO rr.2.1, m54 rr.1, m54 rr.2, nI_add]
  rw [if_neg (by decide)]
  rfl
def wornA (s : Sh) : Nat → Nat → Nat → Nat
  | 0, _, a => a
  | r + 1, i, a => wornA s r (i + 1) (a + wornE (en s i))
theorem m104_loop {X : smX} {h : smH} {S : Nat} {s : Sh} (r : SheetAt h S s) : ∀ (d i a : Nat), i + d = s.1.length → sm_E PP X 104 4 [(0, .ref S), (1, .int (nI a)), (2, .int (nI i))] [] h = some (some (.int (nI (wornA s d i a))), h) := by
  intro d
  have h6 := r.2.1.1
  have ro := r.1
  induction d with
  | zero =>
    intro i a hi
    simp only [b104_4, sm_gI_s, sm_gR_s, sm_gJ_s, sm_cR_s, sm_al_s, sm_sw_s, sm_tl1, sm_tl0, sm_ap0, sm_ap1, List.getElem?_cons_zero, List.getElem?_cons_succ, nk10, nk11, if_true, eq_self, fO ro.1]
    rw [if_pos (nI_le (by omega) (by omega))]
    rfl
  | succ d ih =>
    intro i a hi
    rw [b104_4]
    simp only [sm_gI_s, sm_gR_s, sm_gJ_s, sm_cR_s, sm_al_s, sm_sw_s, sm_tl1, sm_tl0, sm_ap0, sm_ap1, List.getElem?_cons_zero, List.getElem?_cons_succ, nk10, nk11, if_true, eq_self, fO ro.1, vO ro.1, m55 r (show i < s.1.length by omega), b104_18, nI_add]
    rw [if_neg (nI_ge (by omega) (by omega)), ih (i + 1) _ (by omega)]
    rfl
theorem m104 {X : smX} {h : smH} {S : Nat} {s : Sh} (r : SheetAt h S s) : sm_C PP X 104 [.ref S] h = some (some (.int (nI (wornA s s.1.length 0 0))), h) := by
  simp only [c104, b104_0]
  exact m104_loop r _ 0 0 (by omega)
theorem m40_loop {X : smX} {S S2 : Nat} {s2 : Sh} (hd : S + 27 ≤ S2 ∨ S2 + 27 ≤ S) : ∀ (d i : Nat), i + d = s2.1.length → ∀ (h : smH) (W : Nat → List Nat × List Nat), SObj h S s2.1.length s2.2.1 s2.2.2 → RowsW h S W → (∀ j, j < i → W j = en s2 j) → SheetAt h S2 s2 → ∃ h', sm_E PP X 40 31 [(0, .ref S), (1, .ref S2), (2, .int (nI i))] [] h = some (none, h') ∧ SheetAt h' S s2 ∧ Fr h h' S (S + 27) := by
  intro d
  induction d with
  | zero =>
    intro i hi h W ro rr hW r2
    have h6 := r2.2.1.1
    refine ⟨h, ?_, ⟨ro, r2.2.1, W, rr, fun j hj => hW j (by omega)⟩, Fr.rf⟩
    simp only [b40_31, sm_gI_s, sm_gR_s, sm_gJ_s, sm_cR_s, sm_al_s, sm_sw_s, sm_tl1, sm_tl0, sm_ap0, sm_ap1, List.getElem?_cons_zero, List.getElem?_cons_succ, nk10, nk11, if_true, eq_self, fO ro.1]
    rw [if_pos (nI_le (by omega) (by omega))]
  | succ d ih =>
    intro i hi h W ro rr hW r2
    have h6 := r2.2.1.1
    obtain ⟨ro2, hb2, W2, rr2, hW2⟩ := id r2
    obtain ⟨h1, e1, q1, f1⟩ := m39 (X := X) (by omega) (rr i (by omega)).1 (rr2 i (by omega)).1
    have rr1 := rr.setW (by omega) q1 f1
    have r21 := r2.fr f1 (by omega)
    have rr21 := rr2.fr f1 (by omega)
    have ro1 := ro.fr f1 (by omega) (by omega) (by omega)
    have ro21 := ro2.fr f1 (by omega) (by omega) (by omega)
    obtain ⟨h2, e2, q2, f2⟩ := m39 (X := X) (by omega) (rr1 i (by omega)).2 (rr21 i (by omega)).2
    have rr2' := rr1.setF (by omega) q2 f2
    have ro2' := ro1.fr f2 (by omega) (by omega) (by omega)
    obtain ⟨h3, e3, q3, f3⟩ := ih (i + 1) (by omega) h2 _ ro2' rr2' (fun j hj => by
      by_cases e : j = i
      · subst e
        rw [uP_eq, uP_eq]
        show (_, _) = _
        rw [← hW2 j (by omega)]
      · rw [uP_ne e, uP_ne e]
        exact hW j (by omega)) (r21.fr f2 (by omega))
    refine ⟨h3, ?_, q3, ((f1.tr f2 (lo := S) (hi := S + 27) (by omega) (by omega) (by omega) (by omega)).tr f3 (by omega) (by omega) (by omega) (by omega))⟩
    rw [b40_31]
    simp only [sm_gI_s, sm_gR_s, sm_gJ_s, sm_cR_s, sm_al_s, sm_sw_s, sm_tl1, sm_tl0, sm_ap0, sm_ap1, List.getElem?_cons_zero, List.getElem?_cons_succ, nk10, nk11, if_true, eq_self, fO ro.1, fO ro2.1, ro.w (show i < 6 by omega), ro2.w (show i < 6 by omega), vO (rr i (by omega)).1.1, e1, b40_54, fO ro1.1, fO ro21.1, ro1.f (show i < 6 by omega), ro21.f (show i < 6 by omega), vO (rr1 i (by omega)).2.1, e2, b40_69, nI_add, e3]
    rw [if_neg (nI_ge (by omega) (by omega))]
/-- copyFrom -/
theorem m40 {X : smX} {h : smH} {S S2 : Nat} {s s2 : Sh} (hd : S + 27 ≤ S2 ∨ S2 + 27 ≤ S) (r : SheetAt h S s) (r2 : SheetAt h S2 s2) : ∃ h', sm_C PP X 40 [.ref S, .ref S2] h = some (none, h') ∧ SheetAt h' S s2 ∧ Fr h h' S (S + 27) := by
  obtain ⟨ro, hb, W, rr, hW⟩ := id r
  have ro2 := r2.1
  have h6 := r2.2.1.1
  have g1 : (sm_w h S (.inr (5, [.ref (S + 1), .ref (S + 14), .int (nI s2.1.length), .int (nI s.2.1), .int (oI s.2.2)]))).1 S = _ := w_eq
  have g2 : (sm_w (sm_w h S (.inr (5, [.ref (S + 1), .ref (S + 14), .int (nI s2.1.length), .int (nI s.2.1), .int (oI s.2.2)]))) S (.inr (5, [.ref (S + 1), .ref (S + 14), .int (nI s2.1.length), .int (nI s2.2.1), .int (oI s.2.2)]))).1 S = _ := w_eq
  have k1 := Fr.w (h := h) (a := S) (e := (.inr (5, [.ref (S + 1), .ref (S + 14), .int (nI s2.1.length), .int (nI s.2.1), .int (oI s.2.2)])))
  have k2 := k1.tr (Fr.w (h := (sm_w h S (.inr (5, [.ref (S + 1), .ref (S + 14), .int (nI s2.1.length), .int (nI s.2.1), .int (oI s.2.2)])))) (a := S) (e := (.inr (5, [.ref (S + 1), .ref (S + 14), .int (nI s2.1.length), .int (nI s2.2.1), .int (oI s.2.2)])))) (Nat.le_refl _) (Nat.le_refl _) (Nat.le_refl _) (Nat.le_refl _)
  have k3 := k2.tr (Fr.w (a := S) (e := (.inr (5, [.ref (S + 1), .ref (S + 14), .int (nI s2.1.length), .int (nI s2.2.1), .int (oI s2.2.2)])))) (Nat.le_refl _) (Nat.le_refl _) (Nat.le_refl _) (Nat.le_refl _)
  have q1 := ro2.fr k1 (by omega) (by omega) (by omega)
  have q2 := ro2.fr k2 (by omega) (by omega) (by omega)
  obtain ⟨h', e, r', f⟩ := m40_loop (X := X) hd s2.1.length 0 (by omega) _ W (ro.put k3 w_eq) (rr.ob k3) (fun j hj => by omega) (r2.fr k3 (by omega))
  refine ⟨h', ?_, r', k3.tr f (by omega) (by omega) (by omega) (by omega)⟩
  rw [c40, b40_0]
  simp only [sm_gI_s, sm_gR_s, sm_gJ_s, sm_cR_s, sm_al_s, sm_sw_s, sm_tl1, sm_tl0, sm_ap0, sm_ap1, List.getElem?_cons_zero, List.getElem?_cons_succ, nk10, nk11, if_true, eq_self, fO ro2.1]
  rw [if_neg (nI_nlt (by omega) (by omega)), pO ro.1 (by show 2 < 5; omega)]
  simp only [sm_gI_s, sm_gR_s, sm_gJ_s, sm_cR_s, sm_al_s, sm_sw_s, sm_tl1, sm_tl0, sm_ap0, sm_ap1, List.getElem?_cons_zero, List.getElem?_cons_succ, nk10, nk11, if_true, eq_self, List.set, fO q1.1]
  rw [pO g1 (by show 3 < 5; omega)]
  simp only [sm_gI_s, sm_gR_s, sm_gJ_s, sm_cR_s, sm_al_s, sm_sw_s, sm_tl1, sm_tl0, sm_ap0, sm_ap1, List.getElem?_cons_zero, List.getElem?_cons_succ, nk10, nk11, if_true, eq_self, List.set, fO q2.1]
  rw [pO g2 (by show 4 < 5; omega)]
  exact e
theorem en_erase {s : Sh} {e j : Nat} {a : Nat} {b : Option Nat} : en (s.1.eraseIdx e, a, b) j = if j < e then en s j else en s (j + 1) := by
  unfold en
  rw [List.getD_eq_getElem?_getD, List.getD_eq_getElem?_getD, List.getD_eq_getElem?_getD, List.getElem?_eraseIdx]
  split <;> rfl
theorem en_app {s : Sh} {p : List Nat × List Nat} {j : Nat} {a : Nat} {b : Option Nat} : en (s.1 ++ [p], a, b) j = if j < s.1.length then en s j else if j = s.1.length then p else ([], []) := by
  unfold en
  rw [List.getD_eq_getElem?_getD, List.getD_eq_getElem?_getD]
  by_cases h : j < s.1.length
  · rw [if_pos h, List.getElem?_append_left h]
  · rw [if_neg h, List.getElem?_append_right (by omega)]
    by_cases h2 : j = s.1.length
    · subst h2; rw [if_pos rfl, Nat.sub_self]; rfl
    · rw [if_neg h2, List.getElem?_eq_none (by show 1 ≤ _; omega)]; rfl
theorem en_set {s : Sh} {p : List Nat × List Nat} {e j : Nat} {a : Nat} {b : Option Nat} (he : e < s.1.length) : en (s.1.set e p, a, b) j = if j = e then p else en s j := by
  unfold en
  rw [List.getD_eq_getElem?_getD, List.getD_eq_getElem?_getD, List.getElem?_set]
  by_cases h : e = j
  · subst h; simp [he]
  · rw [if_neg h, if_neg (fun q => h q.symm)]
theorem m49_loop {X : smX} {S n e : Nat} {s : Sh} (hb : SBd s) (hn : n + 1 = s.1.length) (he : e ≤ n) : ∀ (d i : Nat), i + d = n → e ≤ i → ∀ (h : smH) (W : Nat → List Nat × List Nat), SObj h S s.1.length s.2.1 s.2.2 → RowsW h S W → (∀ j, j < e → W j = en s j) → (∀ j, e ≤ j → j < i → W j = en s (j + 1)) → (∀ j, i ≤ j → j ≤ n → W j = en s j) → ∃ h', sm_E PP X 49 11 [(0, .ref S), (2, .int (nI i))] [] h = some (none, h') ∧ SheetAt h' S (s.1.eraseIdx e, s.2.1, s.2.2) ∧ Fr h h' S (S + 27) := by
  intro d
  have h6 := hb.1
  have hlen : (s.1.eraseIdx e).length = n := by rw [List.length_eraseIdx_of_lt (by omega)]; omega
  induction d with
  | zero =>
    intro i hi hei h W ro rr w1 w2 w3
    refine ⟨sm_w h S (.inr (5, [.ref (S + 1), .ref (S + 14), .int (nI n), .int (nI s.2.1), .int (oI s.2.2)])), ?_, ⟨?_, ⟨by show (s.1.eraseIdx e).length ≤ 6; omega, hb.2⟩, W, rr.ob Fr.w, fun j hj => ?_⟩, Fr.w.mono (by omega) (by omega)⟩
    · rw [b49_11]
      simp only [sm_gI_s, sm_gR_s, sm_gJ_s, sm_cR_s, sm_al_s, sm_sw_s, sm_tl1, sm_tl0, sm_ap0, sm_ap1, List.getElem?_cons_zero, List.getElem?_cons_succ, nk10, nk11, if_true, eq_self, fO ro.1, pk_sub (show 1 ≤ s.1.length by omega)]
      rw [if_pos (nI_le (show s.1.length - 1 ≤ i by omega) (by omega)), b49_66]
      simp only [sm_gI_s, sm_gR_s, sm_gJ_s, sm_cR_s, sm_al_s, sm_sw_s, sm_tl1, sm_tl0, sm_ap0, sm_ap1, List.getElem?_cons_zero, List.getElem?_cons_succ, nk10, nk11, if_true, eq_self, fO ro.1, pk_sub (show 1 ≤ s.1.length by omega)]
      rw [pO ro.1 (by show 2 < 5; omega), show s.1.length - 1 = n by omega]
      rfl
    · show SObj _ S (s.1.eraseIdx e).length s.2.1 s.2.2
      rw [hlen]
      exact ro.put Fr.w w_eq
    · have hj2 : j < n := by rw [← hlen]; exact hj
      rw [en_erase]
      split
      · exact w1 j (by omega)
      · exact w2 j (by omega) (by omega)
  | succ d ih =>
    intro i hi hei h W ro rr w1 w2 w3
    obtain ⟨h1, e1, q1, f1⟩ := m39 (X := X) (by omega) (rr i (by omega)).1 (rr (i + 1) (by omega)).1
    have rr1 := rr.setW (by omega) q1 f1
    have ro1 := ro.fr f1 (by omega) (by omega) (by omega)
    obtain ⟨h2, e2, q2, f2⟩ := m39 (X := X) (by omega) (rr1 i (by omega)).2 (rr1 (i + 1) (by omega)).2
    have rr2 := rr1.setF (by omega) q2 f2
    have ro2 := ro1.fr f2 (by omega) (by omega) (by omega)
    have k1 : ∀ j, j ≠ i → uP (uP W i ((W (i + 1)).1, (W i).2)) i ((uP W i ((W (i + 1)).1, (W i).2) i).1, (uP W i ((W (i + 1)).1, (W i).2) (i + 1)).2) j = W j := fun j hj => by rw [uP_ne hj, uP_ne hj]
    have k2 : uP (uP W i ((W (i + 1)).1, (W i).2)) i ((uP W i ((W (i + 1)).1, (W i).2) i).1, (uP W i ((W (i + 1)).1, (W i).2) (i + 1)).2) i = W (i + 1) := by rw [uP_eq, uP_eq, uP_ne (by omega)]
    obtain ⟨h3, e3, q3, f3⟩ := ih (i + 1) (by omega) (by omega) h2 _ ro2 rr2 (fun j hj => by rw [k1 j (by omega)]; exact w1 j hj) (fun j hj hj2 => by
      by_cases e : j = i
      · rw [e, k2]; exact w3 (i + 1) (by omega) (by omega)
      · rw [k1 j e]; exact w2 j hj (by omega)) (fun j hj hj2 => by rw [k1 j (by omega)]; exact w3 j (by omega) hj2)
    refine ⟨h3, ?_, q3, ((f1.tr f2 (lo := S) (hi := S + 27) (by omega) (by omega) (by omega) (by omega)).tr f3 (by omega) (by omega) (by omega) (by omega))⟩
    rw [b49_11]
    simp only [sm_gI_s, sm_gR_s, sm_gJ_s, sm_cR_s, sm_al_s, sm_sw_s, sm_tl1, sm_tl0, sm_ap0, sm_ap1, List.getElem?_cons_zero, List.getElem?_cons_succ, nk10, nk11, if_true, eq_self, fO ro.1, pk_sub (show 1 ≤ s.1.length by omega), nI_add, ro.w (show i < 6 by omega), ro.w (show i + 1 < 6 by omega), vO (rr i (by omega)).1.1, e1, b49_43, fO ro1.1, ro1.f (show i < 6 by omega), ro1.f (show i + 1 < 6 by omega), vO (rr1 i (by omega)).2.1, e2, b49_60, e3]
    rw [if_neg (nI_ge (by omega) (by omega)), if_neg (nI_ge (by omega) (by omega))]
/-- removeEntry -/
theorem m49 {X : smX} {h : smH} {S e : Nat} {s : Sh} (r : SheetAt h S s) (he : e < s.1.length) : ∃ h', sm_C PP X 49 [.ref S, .int (nI e)] h = some (none, h') ∧ SheetAt h' S (s.1.eraseIdx e, s.2.1, s.2.2) ∧ Fr h h' S (S + 27) := by
  obtain ⟨ro, hb, W, rr, hW⟩ := id r
  have h6 := hb.1
  obtain ⟨h', e1, r', f⟩ := m49_loop (X := X) (n := s.1.length - 1) (e := e) hb (by omega) (by omega) (s.1.length - 1 - e) e (by omega) (by omega) h W ro rr (fun j hj => hW j (by omega)) (fun j hj hj2 => by omega) (fun j hj hj2 => hW j (by omega))
  refine ⟨h', ?_, r', f⟩
  simp only [c49, b49_0, sm_gI_s, sm_gR_s, sm_gJ_s, sm_cR_s, sm_al_s, sm_sw_s, sm_tl1, sm_tl0, sm_ap0, sm_ap1, List.getElem?_cons_zero, List.getElem?_cons_succ, nk10, nk11, if_true, eq_self, vO ro.1, m48k ro hb.1 he, b49_5, e1]
  rw [if_neg (by decide)]
/-- addEntry -/
theorem m46 {X : smX} {h : smH} {S t q : Nat} {s : Sh} {tx : List Nat} (hd : S + 27 ≤ t ∨ t + 2 ≤ S) (r : SheetAt h S s) (ht : TextAt h t tx) (hn : s.1.length < 6) (hq : eqp tx tx.length 0 = q) (h1 : q < tx.length) (h2 : q ≤ 31) (h3 : tx.length - (q + 1) ≤ 3) : ∃ h', sm_C PP X 46 [.ref S, .ref t] h = some (none, h') ∧ SheetAt h' S (s.1 ++ [((tx.drop 0).take (q - 0), (tx.drop (q + 1)).take (tx.length - (q + 1)))], s.2.1, s.2.2) ∧ Fr h h' S (S + 27) := by
  obtain ⟨ro, hb, W, rr, hW⟩ := id r
  have h6 := hb.1
  have t40 := ht.2.1.1
  obtain ⟨h1', e1, q1, f1⟩ := m45 (X := X) (a := 0) (b := q) (by omega) (rr s.1.length (by omega)).1 ht (by omega) (by omega) (by omega)
  have rr1 := rr.setW (by omega) q1 f1
  have ro1 := ro.fr f1 (by omega) (by omega) (by omega)
  have ht1 := ht.fr f1 (by omega)
  obtain ⟨h2', e2, q2, f2⟩ := m45 (X := X) (a := q + 1) (b := tx.length) (by omega) (rr1 s.1.length (by omega)).2 ht1 (by omega) (by omega) (by omega)
  have rr2 := rr1.setF (by omega) q2 f2
  have ro2 := ro1.fr f2 (by omega) (by omega) (by omega)
  have ht2 := ht1.fr f2 (by omega)
  refine ⟨sm_w h2' S (.inr (5, [.ref (S + 1), .ref (S + 14), .int (nI (s.1.length + 1)), .int (nI s.2.1), .int (oI s.2.2)])), ?_, ⟨?_, ⟨by show (s.1 ++ [_]).length ≤ 6; rw [List.length_append]; show s.1.length + 1 ≤ 6; omega, hb.2⟩, _, rr2.ob Fr.w, fun j hj => ?_⟩, ?_⟩
  · rw [c46, b46_0]
    simp only [sm_gI_s, sm_gR_s, sm_gJ_s, sm_cR_s, sm_al_s, sm_sw_s, sm_tl1, sm_tl0, sm_ap0, sm_ap1, List.getElem?_cons_zero, List.getElem?_cons_succ, nk10, nk11, if_true, eq_self, fO ro.1, vO ht.1, m44 ht, hq, b46_14, ro.w (show s.1.length < 6 by omega), vO (rr s.1.length (by omega)).1.1]
    rw [if_pos (nI_lt hn (by omega)), show (nI 0 : Int32) = nI 0 from rfl, e1]
    simp only [sm_gI_s, sm_gR_s, sm_gJ_s, sm_cR_s, sm_al_s, sm_sw_s, sm_tl1, sm_tl0, sm_ap0, sm_ap1, List.getElem?_cons_zero, List.getElem?_cons_succ, nk10, nk11, if_true, eq_self, b46_30, fO ro1.1, ro1.f (show s.1.length < 6 by omega), fO ht1.1, vO (rr1 s.1.length (by omega)).2.1, nI_add, e2, b46_50, fO ro2.1]
    rw [pO ro2.1 (by show 2 < 5; omega)]
    rfl
  · show SObj _ S (s.1 ++ [_]).length s.2.1 s.2.2
    rw [List.length_append]
    exact ro2.put Fr.w w_eq
  · rw [en_app]
    have hj2 : j < s.1.length + 1 := by
      have : (s.1 ++ [((tx.drop 0).take (q - 0), (tx.drop (q + 1)).take (tx.length - (q + 1)))]).length = s.1.length + 1 := List.length_append
      rw [← this]; exact hj
    by_cases e : j < s.1.length
    · rw [if_pos e, uP_ne (by omega), uP_ne (by omega)]
      exact hW j e
    · rw [if_neg e, if_pos (by omega), show j = s.1.length by omega, uP_eq, uP_eq]
  · exact ((f1.tr f2 (lo := S) (hi := S + 27) (by omega) (by omega) (by omega) (by omega)).tr (Fr.w (h := h2') (a := S)) (by omega) (by omega) (by omega) (by omega))
