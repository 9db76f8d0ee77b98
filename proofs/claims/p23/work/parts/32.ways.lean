/-! the LEAST way -/
/-- the one RANKED first: none has less DOUBT, and no earlier one as much -/
theorem ahd_0 {l : List (Nat × Nat)} {i : Nat} : ∀ d j : Nat, (∀ k, j ≤ k → k < j + d → pD l i < pD l k ∨ (pD l i = pD l k ∧ i ≤ k)) → ahd l i d j 0 = 0 := by
  intro d
  induction d with
  | zero => intro j h; rfl
  | succ d ih =>
    intro j h
    unfold ahd
    have := h j (by omega) (by omega)
    rw [if_neg (by omega)]
    exact ih (j + 1) (fun k h1 h2 => h k (by omega) (by omega))
theorem ahd_ge {l : List (Nat × Nat)} {i : Nat} : ∀ d j a : Nat, a ≤ ahd l i d j a := by
  intro d
  induction d with
  | zero => intro j a; exact Nat.le_refl _
  | succ d ih =>
    intro j a
    unfold ahd
    split
    · have := ih (j + 1) (a + 1); omega
    · exact ih (j + 1) a
theorem ahd_is0 {l : List (Nat × Nat)} {i : Nat} : ∀ d j : Nat, ahd l i d j 0 = 0 → ∀ k, j ≤ k → k < j + d → pD l i < pD l k ∨ (pD l i = pD l k ∧ i ≤ k) := by
  intro d
  induction d with
  | zero => intro j h k h1 h2; omega
  | succ d ih =>
    intro j h k h1 h2
    unfold ahd at h
    split at h
    · have := ahd_ge (l := l) (i := i) d (j + 1) (0 + 1); omega
    · by_cases e : k = j
      · subst e; omega
      · exact ih (j + 1) h k (by omega) (by omega)
theorem first_ex {l : List (Nat × Nat)} (hl : 0 < l.length) : ∃ i, i < l.length ∧ ∀ k, k < l.length → pD l i < pD l k ∨ (pD l i = pD l k ∧ i ≤ k) := by
  obtain ⟨v, ⟨i0, h1, h2⟩, h3⟩ := pk_least (fun v => ∃ i, i < l.length ∧ pD l i = v) ⟨_, 0, hl, rfl⟩
  obtain ⟨i, ⟨g1, g2⟩, g3⟩ := pk_least (fun i => i < l.length ∧ pD l i = v) ⟨i0, h1, h2⟩
  refine ⟨i, g1, fun k hk => ?_⟩
  by_cases e : pD l k < v
  · exact absurd ⟨k, hk, rfl⟩ (h3 _ e)
  · by_cases e2 : pD l k = v
    · refine Or.inr ⟨by omega, ?_⟩
      by_cases e3 : k < i
      · exact absurd ⟨hk, e2⟩ (g3 k e3)
      · omega
    · exact Or.inl (by omega)
theorem ixR_first {l : List (Nat × Nat)} {i : Nat} (hi : i < l.length) (hf : ∀ k, k < l.length → pD l i < pD l k ∨ (pD l i = pD l k ∧ i ≤ k)) : ∀ r j : Nat, j + r = l.length → j ≤ i → ixR l 0 r j = some i := by
  intro r
  induction r with
  | zero => intro j h1 h2; omega
  | succ r ih =>
    intro j h1 h2
    unfold ixR
    by_cases e : j = i
    · subst e
      rw [if_pos (ahd_0 _ _ (fun k _ hk => hf k (by omega)))]
    · rw [if_neg (fun q => by
        have a := ahd_is0 _ _ q i (by omega) (by omega)
        have b := hf j (by omega)
        omega)]
      exact ih (j + 1) (by omega) (by omega)
def fmI (l : List (Nat × Nat)) : Nat := (ixR l 0 l.length 0).getD 0
theorem fm_ok {l : List (Nat × Nat)} (hl : 0 < l.length) : ixR l 0 l.length 0 = some (fmI l) ∧ fmI l < l.length ∧ ∀ k, k < l.length → pD l (fmI l) < pD l k ∨ (pD l (fmI l) = pD l k ∧ fmI l ≤ k) := by
  obtain ⟨i, h1, h2⟩ := first_ex hl
  have h3 := ixR_first h1 h2 l.length 0 (by omega) (by omega)
  have h4 : fmI l = i := by unfold fmI; rw [h3]; rfl
  rw [h4]
  exact ⟨h3, h1, h2⟩
def sumF (s : Sh) : Nat → Nat → Nat → Nat
  | 0, _, a => a
  | r + 1, i, a => sumF s r (i + 1) (a + pD (agE s i).1 (fmI (agE s i).1))
theorem sumF_le {s : Sh} (ok : agOk s) (h0 : ∀ j, j < s.1.length → 0 < (agE s j).1.length) : ∀ r i a : Nat, i + r = s.1.length → sumF s r i a ≤ a + 99 * r := by
  intro r
  induction r with
  | zero => intro i a h; exact Nat.le_refl _
  | succ r ih =>
    intro i a h
    have := ih (i + 1) (a + pD (agE s i).1 (fmI (agE s i).1)) (by omega)
    have := (ok i (by omega) _ (fm_ok (h0 i (by omega))).2.1).2
    unfold sumF
    omega
def loE (s : Sh) (e x : Nat) : Nat := loI (agE s e).1 (lsq s (s.1.length - (e + 1)) (e + 1)) x ((lsq s (s.1.length - e) e x).getD 0) (agE s e).1.length 0
def lft (s : Sh) (t : Nat) : Nat → Nat
  | 0 => t
  | e + 1 => lft s t e - loE s e (lft s t e)
def leastD (s : Sh) : Option Nat := if alt s s.1.length 0 0 = 0 then (match s.2.2 with
  | none => some (sumF s s.1.length 0 0)
  | some t => if 5994 < t then none else lsq s s.1.length 0 t) else none
def lnE (s : Sh) (e : Nat) : Nat := match s.2.2 with
  | none => pN (agE s e).1 (fmI (agE s e).1)
  | some t => loE s e (lft s t e)
theorem loI_ok {l : List (Nat × Nat)} {beh : Nat → Option Nat} {sum v : Nat} : ∀ (r k : Nat), (∃ j, k ≤ j ∧ j < k + r ∧ dwt l j beh sum = some v) → ∃ j, k ≤ j ∧ j < k + r ∧ dwt l j beh sum = some v ∧ loI l beh sum v r k = pN l j := by
  intro r
  induction r with
  | zero => intro k ⟨j, h1, h2, h3⟩; omega
  | succ r ih =>
    intro k ⟨j, h1, h2, h3⟩
    unfold loI
    by_cases e : dwt l k beh sum = some v
    · rw [if_pos e]
      exact ⟨k, by omega, by omega, e, rfl⟩
    · rw [if_neg e]
      have : j ≠ k := fun q => e (q ▸ h3)
      obtain ⟨j2, g1, g2, g3, g4⟩ := ih (k + 1) ⟨j, by omega, by omega, h3⟩
      exact ⟨j2, by omega, by omega, g3, g4⟩
theorem loE_ok {s : Sh} {e x v : Nat} (he : e < s.1.length) (h : lsq s (s.1.length - e) e x = some v) : ∃ j y, j < (agE s e).1.length ∧ loE s e x = pN (agE s e).1 j ∧ pN (agE s e).1 j ≤ x ∧ lsq s (s.1.length - (e + 1)) (e + 1) (x - loE s e x) = some y := by
  have h0 := h
  rw [show s.1.length - e = (s.1.length - (e + 1)) + 1 by omega] at h
  unfold lsq at h
  rcases laS_ex _ _ _ h with q | ⟨j, g1, g2, g3⟩
  · cases q
  · obtain ⟨j2, k1, k2, k3, k4⟩ := loI_ok (agE s e).1.length 0 ⟨j, g1, g2, g3⟩
    have k5 : loE s e x = pN (agE s e).1 j2 := by
      unfold loE
      rw [h0]
      exact k4
    unfold dwt at k3
    split at k3
    · cases k3
    · split at k3
      · cases k3
      · rename_i q1 y q2
        exact ⟨j2, y, by omega, k5, by omega, by rw [k5]; exact q2⟩
theorem m81_loop {X : smX} {F : Nat} {l : Bool} {W} {s : Sh} (h6 : s.1.length ≤ 6) (ok : agOk s) (hW : ∀ p, p < s.1.length → W p = agE s p) (h0 : ∀ j, j < s.1.length → 0 < (agE s j).1.length) : ∀ (d i a : Nat), i + d = s.1.length → ∀ (h : smH) (f : Nat → Int32), FdO h F (bI true) (bI l) (nI a) → AgS h F W → IA h (F + 10) 6 f → (∀ j, j < i → f j = nI (pN (agE s j).1 (fmI (agE s j).1))) → ∃ h' f', sm_E PP X 81 7 [(0, .ref F), (1, .int (nI s.1.length)), (2, .int (nI i))] [] h = some (none, h') ∧ FdO h' F (bI true) (bI l) (nI (sumF s d i a)) ∧ IA h' (F + 10) 6 f' ∧ (∀ j, j < s.1.length → f' j = nI (pN (agE s j).1 (fmI (agE s j).1))) ∧ h'.2 = h.2 ∧ (∀ b, b ≠ F → b ≠ F + 10 → h'.1 b = h.1 b) := by
  intro d
  induction d with
  | zero =>
    intro i a hi h f ro ra rf hf
    refine ⟨h, f, ?_, ro, rf, fun j hj => hf j (by omega), rfl, fun _ _ _ => rfl⟩
    rw [b81_7, if_pos (nI_le (by omega) (by omega)), b81_70]
  | succ d ih =>
    intro i a hi h f ro ra rf hf
    have rA := ra i (by omega)
    rw [hW i (by omega)] at rA
    obtain ⟨x1, x2, x3⟩ := fm_ok (h0 i (by omega))
    have hb := (ok i (by omega) _ x2)
    have k1 : Fr h (sm_w h (F + 10) (.inl (.int, 6, .inl (upd f i (nI (pN (agE s i).1 (fmI (agE s i).1))))))) (F + 10) (F + 10 + 1) := Fr.w
    have ro1 := ro.fr k1 (by omega)
    have ra1 := ra.fr k1 (by omega)
    have rA1 := ra1 i (by omega)
    rw [hW i (by omega)] at rA1
    have k2 : Fr (sm_w h (F + 10) (.inl (.int, 6, .inl (upd f i (nI (pN (agE s i).1 (fmI (agE s i).1))))))) (sm_w (sm_w h (F + 10) (.inl (.int, 6, .inl (upd f i (nI (pN (agE s i).1 (fmI (agE s i).1))))))) F (.inr (1, [.ref (F + 1), .int (bI true), .ref (F + 2), .ref (F + 10), .int (nI (a + pD (agE s i).1 (fmI (agE s i).1))), .int (bI l), .ref (F + 11), .ref (F + 12)]))) F (F + 1) := Fr.w
    obtain ⟨h3, f3, e3, q3, g3, g4, g5, g6⟩ := ih (i + 1) (a + pD (agE s i).1 (fmI (agE s i).1)) (by omega) _ _ (ro1.put k2 w_eq) (ra1.fr k2 (by omega)) (((w_ne (by omega)).trans w_eq : IA _ (F + 10) 6 (upd f i (nI (pN (agE s i).1 (fmI (agE s i).1)))))) (fun j hj => by
      by_cases e : j = i
      · rw [e, pk_us]
      · rw [pk_un e]; exact hf j (by omega))
    refine ⟨h3, f3, ?_, q3, g3, g4, g5, fun b hb1 hb2 => (g6 b hb1 hb2).trans ((w_ne hb1).trans (w_ne hb2))⟩
    rw [b81_7, if_neg (nI_ge (by omega) (by omega)), if_neg (nI_ge (by omega) (by omega))]
    simp only [fO ro.1, sm_gI_s, sm_gR_s, sm_gJ_s, sm_cR_s, sm_al_s, sm_sw_s, sm_tl1, sm_tl0, sm_ap0, sm_ap1, List.getElem?_cons_zero, List.getElem?_cons_succ, nk10, nk11, if_true, eq_self, ro.ag (show i < 6 by omega), vO rA.1, m76 rA (show 0 < 2 ^ 31 by omega), x1, b81_28, oIs, m77 rA x2, b81_44]
    rw [stO rf (show i < 6 by omega) (by omega)]
    simp only [fO ro1.1, sm_gI_s, sm_gR_s, sm_gJ_s, sm_cR_s, sm_al_s, sm_sw_s, sm_tl1, sm_tl0, sm_ap0, sm_ap1, List.getElem?_cons_zero, List.getElem?_cons_succ, nk10, nk11, if_true, eq_self, ro1.ag (show i < 6 by omega), vO rA1.1, m74 rA1 x2, b81_60, nI_add]
    rw [pO ro1.1 (by show 4 < 8; omega)]
    exact e3
theorem m81 {X : smX} {h : smH} {F : Nat} {l : Bool} {ld : Int32} {W} {s : Sh} (r : FdK h F true ld W l s) (h6 : s.1.length ≤ 6) (h0 : alt s s.1.length 0 0 = 0) : ∃ h' f', sm_C PP X 81 [.ref F, .int (nI s.1.length)] h = some (none, h') ∧ FdK h' F true (nI (sumF s s.1.length 0 0)) W l s ∧ IA h' (F + 10) 6 f' ∧ (∀ j, j < s.1.length → f' j = nI (pN (agE s j).1 (fmI (agE s j).1))) ∧ Fr h h' F (F + 11) := by
  have ok := r.ok h6
  obtain ⟨ro, rs, ra, rw1⟩ := r
  obtain ⟨f, rf⟩ := rs.2.1
  have k1 : Fr h (sm_w h F (.inr (1, [.ref (F + 1), .int (bI true), .ref (F + 2), .ref (F + 10), .int (nI 0), .int (bI l), .ref (F + 11), .ref (F + 12)]))) F (F + 1) := Fr.w
  obtain ⟨h2, f2, e2, q2, g2, g3, g4, g5⟩ := m81_loop (X := X) h6 ok (rw1 rfl) (fun j hj => alt_0 _ _ _ h0 j (by omega) (by omega)) s.1.length 0 0 (by omega) _ f (ro.put k1 w_eq) (ra.fr k1 (by omega)) (rf.fr k1 (by omega)) (fun j hj => by omega)
  have k3 : ∀ b, b ≠ F → b ≠ F + 10 → h2.1 b = h.1 b := fun b h1 h2 => (g5 b h1 h2).trans (w_ne h1)
  have kf : Fr h h2 F (F + 11) := ⟨g4, fun b hb => k3 b (by omega) (by omega)⟩
  refine ⟨h2, f2, ?_, ⟨q2, ⟨fun i hi => ⟨(rs.1 i hi).choose, (k3 _ (by omega) (by omega)).trans (rs.1 i hi).choose_spec⟩, ⟨f2, g2⟩, ⟨rs.2.2.1.choose, (k3 _ (by omega) (by omega)).trans rs.2.2.1.choose_spec⟩, rs.2.2.2.choose, (k3 _ (by omega) (by omega)).trans rs.2.2.2.choose_spec⟩, ra.fr kf (by omega), rw1⟩, g2, g3, kf⟩
  rw [c81, b81_0, pO ro.1 (by show 4 < 8; omega)]
  exact e2
theorem m88_loop {X : smX} {F t : Nat} {a b ld : Int32} {W} {s : Sh} {R} (h6 : s.1.length ≤ 6) (ok : agOk s) (hW : ∀ p, p < s.1.length → W p = agE s p) (ht : t ≤ 5994) (hR : ∀ i, i ≤ s.1.length → ∀ y, y ≤ t → R i y = oU (lsq s (s.1.length - i) i y)) : ∀ (d i : Nat), i + d = s.1.length → lft s t i ≤ t → (∃ v, lsq s (s.1.length - i) i (lft s t i) = some v) → ∀ (h : smH) (f : Nat → Int32), FdO h F a b ld → AgS h F W → LbS h F R → IA h (F + 10) 6 f → (∀ j, j < i → f j = nI (loE s j (lft s t j))) → ∃ h' f', sm_E PP X 88 48 [(0, .ref F), (1, .int (nI s.1.length)), (3, .int (nI (lft s t i))), (4, .int (nI i))] [] h = some (none, h') ∧ IA h' (F + 10) 6 f' ∧ (∀ j, j < s.1.length → f' j = nI (loE s j (lft s t j))) ∧ Fr h h' (F + 10) (F + 11) := by
  intro d
  induction d with
  | zero =>
    intro i hi hl hv h f ro ra rl rf hf
    refine ⟨h, f, ?_, rf, fun j hj => hf j (by omega), Fr.rf⟩
    rw [b88_48, if_pos (nI_le (by omega) (by omega)), b88_111]
  | succ d ih =>
    intro i hi hl ⟨v, hv⟩ h f ro ra rl rf hf
    have rA := ra i (by omega)
    rw [hW i (by omega)] at rA
    obtain ⟨j, y, g1, g2, g3, g4⟩ := loE_ok (by omega) hv
    have hvl := lsq_le ok _ _ _ _ (by omega) hv
    have e87 := m87 (X := X) rA (rl (i + 1) (by omega)) (rl i (by omega)) (show R i (lft s t i) = nI v by rw [hR i (by omega) _ hl, hv]; rfl) (by omega) (by omega) (fun x hx => hR (i + 1) (by omega) x (by omega)) (lsq_B ok h6 (by omega))
    have hE : loI (agE s i).1 (lsq s (s.1.length - (i + 1)) (i + 1)) (lft s t i) v (agE s i).1.length 0 = loE s i (lft s t i) := by
      unfold loE
      rw [hv]
      rfl
    rw [hE] at e87
    have k1 : Fr h (sm_w h (F + 10) (.inl (.int, 6, .inl (upd f i (nI (loE s i (lft s t i))))))) (F + 10) (F + 11) := Fr.w
    have ro1 := ro.fr k1 (by omega)
    obtain ⟨h3, f3, e3, q3, x3, k3⟩ := ih (i + 1) (by omega) (by show lft s t i - _ ≤ t; omega) ⟨y, g4⟩ _ _ ro1 (ra.fr k1 (by omega)) (fun p hp => (rl p hp).fr k1 (by omega)) (w_eq : IA _ (F + 10) 6 (upd f i (nI (loE s i (lft s t i))))) (fun j hj => by
      by_cases e : j = i
      · rw [e, pk_us]
      · rw [pk_un e]; exact hf j (by omega))
    refine ⟨h3, f3, ?_, q3, x3, k1.s k3⟩
    rw [b88_48, if_neg (nI_ge (by omega) (by omega)), if_neg (nI_ge (by omega) (by omega))]
    simp only [fO ro.1, sm_gI_s, sm_gR_s, sm_gJ_s, sm_cR_s, sm_al_s, sm_sw_s, sm_tl1, sm_tl0, sm_ap0, sm_ap1, List.getElem?_cons_zero, List.getElem?_cons_succ, nk10, nk11, if_true, eq_self, ro.ag (show i < 6 by omega), ro.lb (show i < 7 by omega), nI_add, ro.lb (show i + 1 < 7 by omega), e87, b88_94]
    rw [stO rf (show i < 6 by omega) (by omega)]
    simp only [fO ro1.1, sm_gI_s, sm_gR_s, sm_gJ_s, sm_cR_s, sm_al_s, sm_sw_s, sm_tl1, sm_tl0, sm_ap0, sm_ap1, List.getElem?_cons_zero, List.getElem?_cons_succ, nk10, nk11, if_true, eq_self]
    rw [aO (w_eq : (sm_w h (F + 10) _).1 (F + 10) = _), ldO (show i < 6 by omega) (by omega), pk_us, pk_sub (by rw [g2]; exact g3)]
    exact e3
