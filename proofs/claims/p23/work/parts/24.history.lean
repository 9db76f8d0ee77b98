/-! class History -/
def HistAt (h : smH) (H : Nat) (p : List Sh) : Prop := ∃ (nx : Nat) (V : Nat → Sh), h.1 H = some (.inr (2, [.ref (H + 1), .int (nI nx), .int (nI p.length)])) ∧
  (∃ ty f, ty.isReference = true ∧ h.1 (H + 1) = some (.inl (ty, 8, .inr (.inr (.inr (.inr f))))) ∧ ∀ i, i < 8 → f i = some (H + 2 + 27 * i)) ∧ nx < 8 ∧ p.length ≤ 8 ∧
  (∀ j, j < 8 → SheetAt h (H + 2 + 27 * j) (V j)) ∧ ∀ i, i < p.length → p[i]? = some (V ((nx + 7 - i) % 8))
theorem HistAt.fr {h h' : smH} {H lo hi : Nat} {p} (r : HistAt h H p) (f : Fr h h' lo hi) (hd : H + 218 ≤ lo ∨ hi ≤ H) : HistAt h' H p := by
  obtain ⟨nx, V, a, ⟨ty, g, b1, b2, b3⟩, c, d, e, i⟩ := r
  exact ⟨nx, V, by rw [f.2 _ (by omega)]; exact a, ⟨ty, g, b1, by rw [f.2 _ (by omega)]; exact b2, b3⟩, c, d, fun j hj => (e j hj).fr f (by omega), i⟩
theorem SheetAt.kp {h h1 h' : smH} {S lo hi lo2 hi2 : Nat} {s : Sh} (r : SheetAt h S s) (f : Fr h h1 lo hi) (f2 : Fr h1 h' lo2 hi2) (hd : S + 27 ≤ lo ∨ hi ≤ S) (hd2 : S + 27 ≤ lo2 ∨ hi2 ≤ S) : SheetAt h' S s := (r.fr f hd).fr f2 hd2
theorem take8 {α : Type} {s : α} {p : List α} (hp : p.length ≤ 8) : ((s :: p).take 8).length = if p.length < 8 then p.length + 1 else 8 := by
  rw [List.length_take, List.length_cons]
  split <;> omega
/-- floorMod by 8, of 0 to 8 and of -1 -/
theorem fl_n : ∀ n, n < 9 → (0 : Int32) ≤ (nI n ^^^ nI 8) ∧ nI n - nI n / nI 8 * nI 8 = nI (n % 8) := by decide +kernel
theorem m92 {X : smX} {h : smH} {n : Nat} (hn : n < 9) : sm_C PP X 92 [.int (nI n)] h = some (some (.int (nI (n % 8))), h) := by
  rw [c92, b92_0, c106, b106_0, if_neg (show ¬ (nI 8 : Int32) = 0 by decide), if_pos (fl_n n hn).1, (fl_n n hn).2, b106_18]
  simp only [sm_gI_s, sm_gR_s, sm_gJ_s, sm_cR_s, sm_al_s, sm_sw_s, sm_tl1, sm_tl0, sm_ap0, sm_ap1, List.getElem?_cons_zero, List.getElem?_cons_succ, nk10, nk11, if_true, eq_self, b92_6]
theorem m92m {X : smX} {h : smH} : sm_C PP X 92 [.int (nI 0 - nI 1)] h = some (some (.int (nI 7)), h) := by
  rw [c92, b92_0, c106, b106_0, if_neg (show ¬ (nI 8 : Int32) = 0 by decide), if_neg (show ¬ (0 : Int32) ≤ ((nI 0 - nI 1) ^^^ nI 8) by decide +kernel), if_neg (show ¬ ((nI 0 - nI 1) - (nI 0 - nI 1) / nI 8 * nI 8 : Int32) = 0 by decide +kernel), show ((nI 0 - nI 1) - (nI 0 - nI 1) / nI 8 * nI 8 + nI 8 : Int32) = nI 7 by decide +kernel]
  simp only [sm_gI_s, sm_gR_s, sm_gJ_s, sm_cR_s, sm_al_s, sm_sw_s, sm_tl1, sm_tl0, sm_ap0, sm_ap1, List.getElem?_cons_zero, List.getElem?_cons_succ, nk10, nk11, if_true, eq_self, b92_6]
/-- remember -/
theorem m41 {X : smX} {h : smH} {H S : Nat} {p : List Sh} {s : Sh} (hd : S + 27 ≤ H ∨ H + 218 ≤ S) (r : HistAt h H p) (rs : SheetAt h S s) : ∃ h', sm_C PP X 41 [.ref H, .ref S] h = some (none, h') ∧ HistAt h' H ((s :: p).take 8) ∧ Fr h h' H (H + 218) := by
  obtain ⟨nx, V, a, ⟨ty, g, b1, b2, b3⟩, c, d, e, i⟩ := r
  obtain ⟨h1, e1, q1, f1⟩ := m40 (X := X) (by omega) (e nx c) rs
  have a1 : h1.1 H = some (.inr (2, [.ref (H + 1), .int (nI nx), .int (nI p.length)])) := by rw [f1.2 _ (by omega)]; exact a
  have g1 : (sm_w h1 H (.inr (2, [.ref (H + 1), .int (nI ((nx + 1) % 8)), .int (nI p.length)]))).1 H = _ := w_eq
  have k1 := Fr.w (h := h1) (a := H) (e := (.inr (2, [.ref (H + 1), .int (nI ((nx + 1) % 8)), .int (nI p.length)])))
  have k2 := k1.tr (Fr.w (a := H) (e := (.inr (2, [.ref (H + 1), .int (nI ((nx + 1) % 8)), .int (nI ((s :: p).take 8).length)])))) (Nat.le_refl _) (Nat.le_refl _) (Nat.le_refl _) (Nat.le_refl _)
  have k3 := f1.tr k2 (lo := H) (hi := H + 218) (by omega) (by omega) (by omega) (by omega)
  have b4 : h1.1 (H + 1) = _ := (f1.2 _ (by omega)).trans b2
  have hE : sm_E PP X 41 26 [(0, .ref H)] [.int (nI ((nx + 1) % 8)), .ref H] h1 = some (none, sm_w (sm_w h1 H (.inr (2, [.ref (H + 1), .int (nI ((nx + 1) % 8)), .int (nI p.length)]))) H (.inr (2, [.ref (H + 1), .int (nI ((nx + 1) % 8)), .int (nI ((s :: p).take 8).length)]))) := by
    rw [b41_26, pO a1 (by show 1 < 3; omega)]
    simp only [sm_gI_s, sm_gR_s, sm_gJ_s, sm_cR_s, sm_al_s, sm_sw_s, sm_tl1, sm_tl0, sm_ap0, sm_ap1, List.getElem?_cons_zero, List.getElem?_cons_succ, nk10, nk11, if_true, eq_self, List.set, fO g1, nI_add]
    rw [pO g1 (by show 2 < 3; omega)]
    simp only [List.set]
    rw [take8 d]
    by_cases hp : p.length < 8
    · rw [if_neg (nI_nlt (by omega) (by omega)), if_pos hp]
    · rw [if_pos (nI_lt (by omega) (by omega)), if_neg hp]
  refine ⟨sm_w (sm_w h1 H (.inr (2, [.ref (H + 1), .int (nI ((nx + 1) % 8)), .int (nI p.length)]))) H (.inr (2, [.ref (H + 1), .int (nI ((nx + 1) % 8)), .int (nI ((s :: p).take 8).length)])), ?_, ⟨(nx + 1) % 8, uP V nx s, w_eq, ⟨ty, g, b1, by rw [k2.2 _ (by omega)]; exact b4, b3⟩, by omega, by rw [take8 d]; split <;> omega, fun j hj => ?_, fun j hj => ?_⟩, k3⟩
  · rw [c41, b41_0]
    simp only [sm_gI_s, sm_gR_s, sm_gJ_s, sm_cR_s, sm_al_s, sm_sw_s, sm_tl1, sm_tl0, sm_ap0, sm_ap1, List.getElem?_cons_zero, List.getElem?_cons_succ, nk10, nk11, if_true, eq_self, fO a, m92 (show nx < 9 by omega), Nat.mod_eq_of_lt c, b41_11]
    rw [aO b2, ldR b1 c (by omega) (b3 nx c), vO (e nx c).1.1]
    simp only [e1, sm_gI_s, sm_gR_s, sm_gJ_s, sm_cR_s, sm_al_s, sm_sw_s, sm_tl1, sm_tl0, sm_ap0, sm_ap1, List.getElem?_cons_zero, List.getElem?_cons_succ, nk10, nk11, if_true, eq_self, b41_16, fO a1, nI_add, m92 (show nx + 1 < 9 by omega)]
    exact hE
  · by_cases e0 : j = nx
    · subst e0
      rw [uP_eq]
      exact q1.fr k2 (by omega)
    · rw [uP_ne e0]
      exact (e j hj).kp f1 k2 (by omega) (by omega)
  · rw [take8 d] at hj
    rw [List.getElem?_take, if_pos (by split at hj <;> omega)]
    cases j with
    | zero => rw [show ((nx + 1) % 8 + 7 - 0) % 8 = nx by omega, uP_eq]; rfl
    | succ j =>
      rw [show ((nx + 1) % 8 + 7 - (j + 1)) % 8 = (nx + 7 - j) % 8 by split at hj <;> omega, uP_ne (by split at hj <;> omega), List.getElem?_cons_succ]
      exact i j (by split at hj <;> omega)
/-- takeBack -/
theorem m59 {X : smX} {h : smH} {H S : Nat} {p : List Sh} {s s2 : Sh} (hd : S + 27 = H) (r : HistAt h H (s2 :: p)) (rs : SheetAt h S s) : ∃ h', sm_C PP X 59 [.ref H, .ref S] h = some (none, h') ∧ HistAt h' H p ∧ SheetAt h' S s2 ∧ Fr h h' S (H + 1) := by
  obtain ⟨nx, V, a, ⟨ty, g, b1, b2, b3⟩, c, d, e, i⟩ := r
  have d2 : p.length + 1 ≤ 8 := d
  have hV : V ((nx + 7) % 8) = s2 := by
    have := i 0 (by show 0 < p.length + 1; omega)
    rw [List.getElem?_cons_zero] at this
    exact (Option.some.inj this).symm
  have k1 := Fr.w (h := h) (a := H) (e := (.inr (2, [.ref (H + 1), .int (nI ((nx + 7) % 8)), .int (nI (s2 :: p).length)])))
  have g1 : (sm_w h H (.inr (2, [.ref (H + 1), .int (nI ((nx + 7) % 8)), .int (nI (s2 :: p).length)]))).1 H = _ := w_eq
  have e1 := (e ((nx + 7) % 8) (by omega)).fr k1 (by omega)
  obtain ⟨h2, x2, q2, f2⟩ := m40 (X := X) (by omega) (rs.fr k1 (by omega)) e1
  rw [hV] at q2
  have a2 : h2.1 H = _ := (f2.2 _ (by omega)).trans g1
  have k3 := (f2.tr (Fr.w (a := H) (e := (.inr (2, [.ref (H + 1), .int (nI ((nx + 7) % 8)), .int (nI p.length)])))) (lo := S) (hi := H + 1) (by omega) (by omega) (by omega) (by omega))
  have k4 := k1.tr k3 (lo := S) (hi := H + 1) (by omega) (by omega) (by omega) (by omega)
  refine ⟨sm_w h2 H (.inr (2, [.ref (H + 1), .int (nI ((nx + 7) % 8)), .int (nI p.length)])), ?_, ⟨(nx + 7) % 8, V, w_eq, ⟨ty, g, b1, by rw [k4.2 _ (by omega)]; exact b2, b3⟩, by omega, by omega, fun j hj => (e j hj).fr k4 (by omega), fun j hj => ?_⟩, q2.fr (Fr.w (a := H)) (by omega), k4⟩
  · have hE : sm_E PP X 59 18 [(0, .ref H), (1, .ref S)] [.int (nI ((nx + 7) % 8)), .ref H] h = some (none, sm_w h2 H (.inr (2, [.ref (H + 1), .int (nI ((nx + 7) % 8)), .int (nI p.length)]))) := by
      rw [b59_18, pO a (by show 1 < 3; omega)]
      simp only [sm_gI_s, sm_gR_s, sm_gJ_s, sm_cR_s, sm_al_s, sm_sw_s, sm_tl1, sm_tl0, sm_ap0, sm_ap1, List.getElem?_cons_zero, List.getElem?_cons_succ, nk10, nk11, if_true, eq_self, List.set, fO g1]
      rw [aO (show (sm_w h H _).1 (H + 1) = _ from (k1.2 _ (by omega)).trans b2), ldR b1 (show (nx + 7) % 8 < 8 by omega) (by omega) (b3 _ (by omega)), vO (rs.fr k1 (by omega)).1.1]
      simp only [x2, sm_gI_s, sm_gR_s, sm_gJ_s, sm_cR_s, sm_al_s, sm_sw_s, sm_tl1, sm_tl0, sm_ap0, sm_ap1, List.getElem?_cons_zero, List.getElem?_cons_succ, nk10, nk11, if_true, eq_self, b59_34, fO a2]
      rw [pO a2 (by show 2 < 3; omega), show (s2 :: p).length = p.length + 1 from rfl, pk_sub (by omega)]
      rfl
    rw [c59, b59_0]
    simp only [sm_gI_s, sm_gR_s, sm_gJ_s, sm_cR_s, sm_al_s, sm_sw_s, sm_tl1, sm_tl0, sm_ap0, sm_ap1, List.getElem?_cons_zero, List.getElem?_cons_succ, nk10, nk11, if_true, eq_self, fO a]
    rw [if_neg (show ¬ nI (s2 :: p).length = 0 from nI_ne0 (n := p.length + 1) (by omega) (by omega))]
    by_cases hn : nx = 0
    · subst hn
      rw [m92m]
      simp only [sm_gI_s, sm_gR_s, sm_gJ_s, sm_cR_s, sm_al_s, sm_sw_s, sm_tl1, sm_tl0, sm_ap0, sm_ap1, List.getElem?_cons_zero, List.getElem?_cons_succ, nk10, nk11, if_true, eq_self]
      exact hE
    · rw [pk_sub (by omega), m92 (show nx - 1 < 9 by omega)]
      simp only [sm_gI_s, sm_gR_s, sm_gJ_s, sm_cR_s, sm_al_s, sm_sw_s, sm_tl1, sm_tl0, sm_ap0, sm_ap1, List.getElem?_cons_zero, List.getElem?_cons_succ, nk10, nk11, if_true, eq_self]
      rw [← hE, show (nx + 7) % 8 = (nx - 1) % 8 by omega]
  · have := i (j + 1) (by show j + 1 < p.length + 1; omega)
    rw [List.getElem?_cons_succ] at this
    rw [this, show ((nx + 7) % 8 + 7 - j) % 8 = (nx + 7 - (j + 1)) % 8 by omega]
