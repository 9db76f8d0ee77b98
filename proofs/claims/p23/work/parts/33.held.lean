/-! what Findings holds of a sheet -/
theorem FdK.obj {h h' : smH} {F : Nat} {K K2 l l2 : Bool} {ld ld2 : Int32} {W} {s : Sh} (r : FdK h F K ld W l s) (k : Fr h h' F (F + 1)) (hh : h'.1 F = some (.inr (1, [.ref (F + 1), .int (bI K2), .ref (F + 2), .ref (F + 10), .int ld2, .int (bI l2), .ref (F + 11), .ref (F + 12)]))) (hK : K2 = true → K = true) : FdK h' F K2 ld2 W l2 s :=
  ⟨r.1.put k hh, r.2.1.fr k (by omega), r.2.2.1.fr k (by omega), fun h => r.2.2.2 (hK h)⟩
theorem FdK.lb {h h' : smH} {F : Nat} {K l : Bool} {ld : Int32} {W} {s : Sh} {R} (r : FdK h F K ld W l s) (k : Fr h h' (F + 3) (F + 10)) (rl : LbS h' F R) : FdK h' F K ld W l s :=
  ⟨r.1.fr k (by omega), ⟨fun i hi => ⟨_, rl i hi⟩, ⟨_, r.2.1.2.1.choose_spec.fr k (by omega)⟩, ⟨r.2.1.2.2.1.choose, (k.2 _ (by omega)).trans r.2.1.2.2.1.choose_spec⟩, _, r.2.1.2.2.2.choose_spec.fr k (by omega)⟩, r.2.2.1.fr k (by omega), r.2.2.2⟩
theorem FdK.ln {h h' : smH} {F : Nat} {K l : Bool} {ld : Int32} {W} {s : Sh} {f} (r : FdK h F K ld W l s) (k : Fr h h' (F + 10) (F + 11)) (rf : IA h' (F + 10) 6 f) : FdK h' F K ld W l s :=
  ⟨r.1.fr k (by omega), ⟨fun i hi => ⟨_, (r.2.1.1 i hi).choose_spec.fr k (by omega)⟩, ⟨_, rf⟩, ⟨r.2.1.2.2.1.choose, (k.2 _ (by omega)).trans r.2.1.2.2.1.choose_spec⟩, _, r.2.1.2.2.2.choose_spec.fr k (by omega)⟩, r.2.2.1.fr k (by omega), r.2.2.2⟩
theorem FdK.fr {h h' : smH} {F lo hi : Nat} {K l : Bool} {ld : Int32} {W} {s : Sh} (r : FdK h F K ld W l s) (k : Fr h h' lo hi) (hd : F + 31 ≤ lo ∨ hi ≤ F) : FdK h' F K ld W l s :=
  ⟨r.1.fr k (by omega), r.2.1.fr k (by omega), r.2.2.1.fr k (by omega), r.2.2.2⟩
def lsT (s : Sh) (t : Nat) : Option Nat := if 5994 < t then none else lsq s s.1.length 0 t
/-- findLeastOfTotal -/
theorem m88 {X : smX} {h : smH} {F t : Nat} {l : Bool} {W} {s : Sh} (r : FdK h F true (-nI 9) W l s) (h6 : s.1.length ≤ 6) (ht : t ≤ 9999) : ∃ h', sm_C PP X 88 [.ref F, .int (nI s.1.length), .int (nI t)] h = some (none, h') ∧ FdK h' F true (oI (lsT s t)) W l s ∧ (∃ f, IA h' (F + 10) 6 f ∧ ∀ v, lsT s t = some v → ∀ j, j < s.1.length → f j = nI (loE s j (lft s t j))) ∧ Fr h h' F (F + 11) := by
  have ok := r.ok h6
  rw [c88, b88_0, if_neg (nI_pos (by omega))]
  by_cases h1 : 5994 < t
  · rw [if_neg (nI_ge h1 (by omega)), b88_11]
    have e : lsT s t = none := by unfold lsT; rw [if_pos h1]
    rw [e]
    obtain ⟨f, rf⟩ := r.2.1.2.1
    exact ⟨h, rfl, r, ⟨f, rf, fun v hv => by cases hv⟩, Fr.rf⟩
  · have e : lsT s t = lsq s s.1.length 0 t := by unfold lsT; rw [if_neg h1]
    obtain ⟨h1', R, e1, rl, hR, k1⟩ := m86 (X := X) r h6 (show t ≤ 5994 by omega)
    have r1 := r.lb k1 rl
    have hR0 := hR 0 (by omega) t (Nat.le_refl _)
    rw [Nat.sub_zero, ← e] at hR0
    rw [if_pos (nI_le (by omega) (by omega)), vO r.1.1, e1]
    simp only [b88_18, fO r1.1.1, sm_gI_s, sm_gR_s, sm_gJ_s, sm_cR_s, sm_al_s, sm_sw_s, sm_tl1, sm_tl0, sm_ap0, sm_ap1, List.getElem?_cons_zero, List.getElem?_cons_succ, nk10, nk11, if_true, eq_self, r1.1.lb (show 0 < 7 by omega)]
    rw [aO (rl 0 (by omega)), ldO (show t < 5995 by omega) (by omega), hR0]
    cases eL : lsT s t with
    | none =>
      rw [if_pos (show oU none = -nI 1 from rfl)]
      obtain ⟨f, rf⟩ := r1.2.1.2.1
      exact ⟨h1', rfl, r1, ⟨f, rf, fun v hv => by cases hv⟩, k1.mono (by omega) (by omega)⟩
    | some v =>
      rw [e] at eL
      have hv := lsq_le ok _ _ _ _ (by omega) eL
      rw [if_neg (show ¬ oU (some v) = -nI 1 from neg1_ne (by omega)), ldO (show t < 5995 by omega) (by omega), hR0, e, eL, pO r1.1.1 (by show 4 < 8; omega)]
      have k2 : Fr h1' (sm_w h1' F (.inr (1, [.ref (F + 1), .int (bI true), .ref (F + 2), .ref (F + 10), .int (nI v), .int (bI l), .ref (F + 11), .ref (F + 12)]))) F (F + 1) := Fr.w
      have r2 := r1.obj (K2 := true) (l2 := l) (ld2 := nI v) k2 w_eq (fun h => h)
      obtain ⟨f, rf⟩ := r2.2.1.2.1
      obtain ⟨h3, f3, e3, q3, g3, k3⟩ := m88_loop (X := X) h6 ok (r.2.2.2 rfl) (show t ≤ 5994 by omega) hR s.1.length 0 (by omega) (Nat.le_refl _) ⟨v, eL⟩ _ f r2.1 r2.2.2.1 (fun p hp => (rl p hp).fr k2 (by omega)) rf (fun j hj => by omega)
      exact ⟨h3, e3, r2.ln k3 q3, ⟨f3, q3, fun v _ => g3⟩, ((k1.mono (lo := F) (hi := F + 11) (by omega) (by omega)).s (k2.mono (by omega) (by omega))).s (k3.mono (by omega) (by omega))⟩
theorem leastD_t {s : Sh} {t : Nat} (h0 : alt s s.1.length 0 0 = 0) (ht : s.2.2 = some t) : leastD s = lsT s t := by
  unfold leastD
  rw [if_pos h0, ht]
  rfl
def FdAt (h : smH) (F : Nat) (K L : Bool) (s : Sh) : Prop := ∃ ld W, FdK h F K ld W L s ∧ (L = true → K = true ∧ ld = oI (leastD s) ∧ ∃ f, IA h (F + 10) 6 f ∧ ∀ v, leastD s = some v → ∀ e, e < s.1.length → f e = nI (lnE s e))
theorem FdAt.fr {h h' : smH} {F lo hi : Nat} {K L : Bool} {s : Sh} (r : FdAt h F K L s) (k : Fr h h' lo hi) (hd : F + 31 ≤ lo ∨ hi ≤ F) : FdAt h' F K L s := by
  obtain ⟨ld, W, a, b⟩ := r
  exact ⟨ld, W, a.fr k hd, fun hL => by
    obtain ⟨b1, b2, f, b3, b4⟩ := b hL
    exact ⟨b1, b2, f, b3.fr k (by omega), b4⟩⟩
theorem m42A {X : smX} {h : smH} {F : Nat} {K L : Bool} {s : Sh} (r : FdAt h F K L s) (s2 : Sh) : ∃ h', sm_C PP X 42 [.ref F] h = some (none, h') ∧ FdAt h' F false false s2 ∧ Fr h h' F (F + 1) := by
  obtain ⟨ld, W, a, b⟩ := r
  obtain ⟨h', e, q, k⟩ := m42 (X := X) (s2 := s2) a
  exact ⟨h', e, ⟨ld, W, q, fun h => by cases h⟩, k⟩
theorem m68A {X : smX} {h : smH} {S F N : Nat} {K L : Bool} {s : Sh} (d1 : S + 27 ≤ F) (d2 : N + 3 ≤ F) (r : FdAt h F K L s) (rs : SheetAt h S s) (rN : NWAt h N spN) : ∃ h', sm_C PP X 68 [.ref F, .ref S, .ref N] h = some (none, h') ∧ FdAt h' F true L s ∧ Fr h h' F (F + 31) := by
  obtain ⟨ld, W, a, b⟩ := r
  obtain ⟨h', W', e, q, k, hk⟩ := m68 (X := X) d1 d2 a rs rN
  exact ⟨h', e, ⟨ld, W', q, fun hL => by
    obtain ⟨b1, b2, f, b3, b4⟩ := b hL
    exact ⟨rfl, b2, f, by rw [hk b1]; exact b3, b4⟩⟩, k⟩
/-- refreshLeast -/
theorem m89 {X : smX} {h : smH} {S F N : Nat} {K L : Bool} {s : Sh} (d1 : S + 27 ≤ F) (d2 : N + 3 ≤ F) (r : FdAt h F K L s) (rs : SheetAt h S s) (rN : NWAt h N spN) : ∃ h', sm_C PP X 89 [.ref F, .ref S, .ref N] h = some (none, h') ∧ FdAt h' F true true s ∧ Fr h h' F (F + 31) := by
  have h6 := rs.2.1.1
  obtain ⟨ld, W, a, b⟩ := r
  rw [c89, b89_0]
  simp only [fO a.1.1, vO a.1.1, sm_gI_s, sm_gR_s, sm_gJ_s, sm_cR_s, sm_al_s, sm_sw_s, sm_tl1, sm_tl0, sm_ap0, sm_ap1, List.getElem?_cons_zero, List.getElem?_cons_succ, nk10, nk11, if_true, eq_self]
  cases L with
  | true =>
    rw [if_neg (by decide)]
    obtain ⟨b1, b2⟩ := b rfl
    subst b1
    exact ⟨h, rfl, ⟨ld, W, a, fun _ => ⟨rfl, b2⟩⟩, Fr.rf⟩
  | false =>
    rw [if_pos (show bI false = 0 from rfl)]
    obtain ⟨h1, W1, e1, q1, k1, -⟩ := m68 (X := X) d1 d2 a rs rN
    have rs1 := rs.fr k1 (by omega)
    have k2 : Fr h1 (sm_w h1 F (.inr (1, [.ref (F + 1), .int (bI true), .ref (F + 2), .ref (F + 10), .int (-nI 9), .int (bI false), .ref (F + 11), .ref (F + 12)]))) F (F + 1) := Fr.w
    have q2 := q1.obj (K2 := true) (l2 := false) (ld2 := -nI 9) k2 w_eq (fun h => h)
    have rs2 := rs1.fr k2 (by omega)
    rw [e1]
    simp only [sm_gI_s, sm_gR_s, sm_gJ_s, sm_cR_s, sm_al_s, sm_sw_s, sm_tl1, sm_tl0, sm_ap0, sm_ap1, List.getElem?_cons_zero, List.getElem?_cons_succ, nk10, nk11, if_true, eq_self, b89_14, fO rs1.1.1]
    rw [pO q1.1.1 (by show 4 < 8; omega), if_neg (nI_nlt (by omega) (by omega))]
    simp only [List.set]
    rw [vO q2.1.1, m80 q2 h6]
    simp only [sm_gI_s, sm_gR_s, sm_gJ_s, sm_cR_s, sm_al_s, sm_sw_s, sm_tl1, sm_tl0, sm_ap0, sm_ap1, List.getElem?_cons_zero, List.getElem?_cons_succ, nk10, nk11, if_true, eq_self, b89_35, b89_52]
    have fin : ∀ (h3 : smH) (W3 : Nat → Ag), FdK h3 F true (oI (leastD s)) W3 false s → (∃ f, IA h3 (F + 10) 6 f ∧ ∀ v, leastD s = some v → ∀ e, e < s.1.length → f e = nI (lnE s e)) → Fr h h3 F (F + 31) → ∃ h', sm_E PP X 89 64 [(0, .ref F)] [] h3 = some (none, h') ∧ FdAt h' F true true s ∧ Fr h h' F (F + 31) := by
      intro h3 W3 q3 ⟨f3, g3, x3⟩ k3
      have k4 : Fr h3 (sm_w h3 F (.inr (1, [.ref (F + 1), .int (bI true), .ref (F + 2), .ref (F + 10), .int (oI (leastD s)), .int (bI true), .ref (F + 11), .ref (F + 12)]))) F (F + 1) := Fr.w
      refine ⟨_, ?_, ⟨oI (leastD s), W3, q3.obj (K2 := true) (l2 := true) k4 w_eq (fun h => h), fun _ => ⟨rfl, rfl, f3, g3.fr k4 (by omega), x3⟩⟩, k3.s (k4.mono (by omega) (by omega))⟩
      rw [b89_64, if_pos (nf15 1 (Or.inr rfl)), pO q3.1.1 (by show 5 < 8; omega)]
      rfl
    by_cases hz : alt s s.1.length 0 0 = 0
    · rw [hz, if_pos (show (nI 0 : Int32) = 0 from rfl)]
      simp only [fO rs2.1.1, sm_gI_s, sm_gR_s, sm_gJ_s, sm_cR_s, sm_al_s, sm_sw_s, sm_tl1, sm_tl0, sm_ap0, sm_ap1, List.getElem?_cons_zero, List.getElem?_cons_succ, nk10, nk11, if_true, eq_self, vO q2.1.1]
      cases eT : s.2.2 with
      | none =>
        rw [if_pos (show oI none = -nI 9 from rfl)]
        obtain ⟨h3, f3, e3, q3, g3, x3, k3⟩ := m81 (X := X) q2 h6 hz
        rw [e3]
        simp only [sm_gI_s, sm_gR_s, sm_gJ_s, sm_cR_s, sm_al_s, sm_sw_s, sm_tl1, sm_tl0, sm_ap0, sm_ap1, List.getElem?_cons_zero, List.getElem?_cons_succ, nk10, nk11, if_true, eq_self, b89_52]
        have eD : leastD s = some (sumF s s.1.length 0 0) := by
          unfold leastD
          rw [if_pos hz, eT]
        refine fin h3 W1 (by rw [eD]; exact q3) ⟨f3, g3, fun v _ e he => ?_⟩ ((k1.s (k2.mono (by omega) (by omega))).s (k3.mono (by omega) (by omega)))
        unfold lnE
        rw [eT]
        exact x3 e he
      | some t =>
        have ht := rs.2.1.2.2 t eT
        rw [if_neg (show ¬ oI (some t) = -nI 9 from neg9_ne (by omega))]
        obtain ⟨h3, e3, q3, ⟨f3, g3, x3⟩, k3⟩ := m88 (X := X) q2 h6 ht
        rw [show oI (some t) = nI t from rfl, e3]
        simp only [sm_gI_s, sm_gR_s, sm_gJ_s, sm_cR_s, sm_al_s, sm_sw_s, sm_tl1, sm_tl0, sm_ap0, sm_ap1, List.getElem?_cons_zero, List.getElem?_cons_succ, nk10, nk11, if_true, eq_self]
        have eD := leastD_t hz eT
        refine fin h3 W1 (by rw [eD]; exact q3) ⟨f3, g3, fun v hv e he => ?_⟩ ((k1.s (k2.mono (by omega) (by omega))).s (k3.mono (by omega) (by omega)))
        unfold lnE
        rw [eT]
        exact x3 v (by rw [← eD]; exact hv) e he
    · have hz2 := (alt_le (s := s) s.1.length 0 0).2
      rw [if_neg (nI_ne0 (by omega) (by omega))]
      have eD : leastD s = none := by unfold leastD; rw [if_neg hz]
      obtain ⟨f, rf⟩ := q2.2.1.2.1
      exact fin _ W1 (by rw [eD]; exact q2) ⟨f, rf, fun v hv => by rw [eD] at hv; cases hv⟩ (k1.s (k2.mono (by omega) (by omega)))
theorem leastD_le {s : Sh} {v : Nat} (ok : agOk s) (h6 : s.1.length ≤ 6) (h : leastD s = some v) : v ≤ 600 := by
  unfold leastD at h
  split at h
  · rename_i hz
    split at h
    · cases h
      have := sumF_le ok (fun j hj => alt_0 _ _ _ hz j (by omega) (by omega)) s.1.length 0 0 (by omega)
      omega
    · split at h
      · cases h
      · have := lsq_le ok _ _ _ _ (by omega) h
        omega
  · cases h
theorem FdAt.ok {h : smH} {F : Nat} {L : Bool} {s : Sh} (r : FdAt h F true L s) (h6 : s.1.length ≤ 6) : agOk s := by
  obtain ⟨ld, W, a, b⟩ := r
  exact a.ok h6
/-- leastNumber -/
theorem m90 {X : smX} {h : smH} {F e : Nat} {s : Sh} (r : FdAt h F true true s) (h6 : s.1.length ≤ 6) (he : e < s.1.length) : sm_C PP X 90 [.ref F, .int (nI e)] h = some (some (.int (match leastD s with
  | none => -nI 9
  | some _ => nI (lnE s e))), h) := by
  have ok := r.ok h6
  obtain ⟨ld, W, a, b⟩ := r
  obtain ⟨-, b2, f, b3, b4⟩ := b rfl
  subst b2
  rw [c90, b90_0]
  simp only [fO a.1.1, sm_gI_s, sm_gR_s, sm_gJ_s, sm_cR_s, sm_al_s, sm_sw_s, sm_tl1, sm_tl0, sm_ap0, sm_ap1, List.getElem?_cons_zero, List.getElem?_cons_succ, nk10, nk11, if_true, eq_self, oI_none (fun k hk => by have := leastD_le ok h6 hk; omega), b90_23, b90_24, b90_40]
  cases eD : leastD s with
  | none =>
    rw [if_pos rfl, if_pos (show (nI 0 : Int32) = 0 from rfl)]
  | some v =>
    rw [if_neg (by intro q; cases q), if_neg (nI_pos (by omega)), if_neg (nI_ge (by omega) (by omega)), if_neg (show ¬ (nI 1 : Int32) = 0 by decide), aO b3, ldO (by omega) (by omega), b4 v eD e he]
