/-! findAll, isAltered, findFree of the reference -/
theorem AgM.im {h : smH} {M : Nat} {s : Sh} {E E2 : Nat → Bool} (x : AgM h M s E) (q : ∀ j, j < s.1.length → E2 j = true → E j = true) : AgM h M s E2 := by
  obtain ⟨f, g, c, a1, a2, a3, a4⟩ := x
  exact ⟨f, g, c, a1, a2, a3, fun e he hE => a4 e he (q e he hE)⟩
theorem m140_loop {X : smX} {M : Nat} {st : St} : ∀ (d e : Nat), e + d = st.2.1.1.length → ∀ h : smH, RepM h M st → AgM h M st.2.1 (fun j => decide (j < e)) → ∃ h', sm_E PP X 140 2 [(0, .ref M), (1, .int (nI e))] [] h = some (none, h') ∧ RepM h' M st ∧ AgM h' M st.2.1 (fun _ => true) ∧ Fr h h' M (M + 16) := by
  intro d
  induction d with
  | zero =>
    intro e he h r ag
    obtain ⟨⟨q, a⟩, -, ⟨f, c1, c2⟩, -⟩ := id r
    have h6 := r.h6
    refine ⟨h, ?_, r, ag.im (fun j hj _ => decide_eq_true (by omega)), Fr.rf⟩
    rw [b140_2]
    simp only [fO a, sm_gI_s, sm_gR_s, sm_gJ_s, sm_cR_s, sm_al_s, sm_sw_s, sm_tl1, sm_tl0, sm_ap0, sm_ap1, List.getElem?_cons_zero, List.getElem?_cons_succ, nk10, nk11, if_true, eq_self]
    rw [aO c1, ldO (show 0 < 219 by omega) (by omega), c2.1, if_pos (nI_le (by omega) (by omega))]
  | succ d ih =>
    intro e he h r ag
    obtain ⟨⟨q, a⟩, -, ⟨f, c1, c2⟩, -⟩ := id r
    have h6 := r.h6
    obtain ⟨h1, e1, r1, ag1, k1⟩ := m134 (X := X) r ag (show e < st.2.1.1.length by omega)
    obtain ⟨h2, e2, r2, ag2, k2⟩ := ih (e + 1) (by omega) h1 r1 (ag1.im (fun j hj hq => by
      have := of_decide_eq_true hq
      by_cases e0 : j = e
      · rw [e0, uP_eq]
      · rw [uP_ne e0]; exact decide_eq_true (by omega)))
    refine ⟨h2, ?_, r2, ag2, k1.s k2⟩
    rw [b140_2]
    simp only [fO a, sm_gI_s, sm_gR_s, sm_gJ_s, sm_cR_s, sm_al_s, sm_sw_s, sm_tl1, sm_tl0, sm_ap0, sm_ap1, List.getElem?_cons_zero, List.getElem?_cons_succ, nk10, nk11, if_true, eq_self]
    rw [aO c1, ldO (show 0 < 219 by omega) (by omega), c2.1, if_neg (nI_ge (by omega) (by omega)), vO a, e1]
    simp only [sm_gI_s, sm_gR_s, sm_gJ_s, sm_cR_s, sm_al_s, sm_sw_s, sm_tl1, sm_tl0, sm_ap0, sm_ap1, List.getElem?_cons_zero, List.getElem?_cons_succ, nk10, nk11, if_true, eq_self, b140_17, nI_add, e2]
/-- findAll -/
theorem m140 {X : smX} {h : smH} {M : Nat} {st : St} (r : RepM h M st) : ∃ h', sm_C PP X 140 [.ref M] h = some (none, h') ∧ RepM h' M st ∧ AgM h' M st.2.1 (fun _ => true) ∧ Fr h h' M (M + 16) := by
  rw [c140, b140_0]
  exact m140_loop st.2.1.1.length 0 (by omega) h r (r.ag.im (fun j _ hq => by have := of_decide_eq_true hq; omega))
/-- the parts of a heap that the reference has found all in -/
def FnM (h : smH) (M : Nat) (s : Sh) (f g c : Nat → Int32) : Prop := IA h (M + 7) 6000 f ∧ IA h (M + 8) 6000 g ∧ IA h (M + 9) 6 c ∧ ∀ e, e < s.1.length → c e = nI (agE s e).1.length ∧ ∀ k, k < (agE s e).1.length → f (1000 * e + k) = nI (pN (agE s e).1 k) ∧ g (1000 * e + k) = nI (pD (agE s e).1 k)
theorem AgM.fn {h : smH} {M : Nat} {s : Sh} (x : AgM h M s (fun _ => true)) : ∃ f g c, FnM h M s f g c := by
  obtain ⟨f, g, c, a1, a2, a3, a4⟩ := x
  exact ⟨f, g, c, a1, a2, a3, fun e he => a4 e he rfl⟩
theorem FnM.fr {h h' : smH} {M lo hi : Nat} {s f g c} (x : FnM h M s f g c) (k : Fr h h' lo hi) (hd : M + 9 < lo ∨ hi ≤ M + 7) : FnM h' M s f g c := ⟨x.1.fr k (by omega), x.2.1.fr k (by omega), x.2.2.1.fr k (by omega), x.2.2.2⟩
theorem FnM.fm {h h' : smH} {M : Nat} {s f g c} (x : FnM h M s f g c) (k : Fm h h' M) : FnM h' M s f g c := ⟨k.ia x.1 (by omega) (by omega), k.ia x.2.1 (by omega) (by omega), k.ia x.2.2.1 (by omega) (by omega), x.2.2.2⟩
theorem ag_le {s : Sh} {e : Nat} : (agE s e).1.length ≤ 1000 := agl_len 1000 0
theorem FnM.l9 {h : smH} {M e : Nat} {s f g c} (x : FnM h M s f g c) (he : e < s.1.length) (h6 : s.1.length ≤ 6) {X : smX} (κ : Int32 → smR) : sm_ld (sm_ar PP X h (.ref (M + 9))) .int (nI e) κ = κ (nI (agE s e).1.length) := by
  rw [aO x.2.2.1, ldO (by omega) (by omega), (x.2.2.2 e he).1]
theorem FnM.l7 {h : smH} {M e k : Nat} {s f g c} (x : FnM h M s f g c) (he : e < s.1.length) (h6 : s.1.length ≤ 6) (hk : k < (agE s e).1.length) {X : smX} (κ : Int32 → smR) : sm_ld (sm_ar PP X h (.ref (M + 7))) .int (nI (1000 * e + k)) κ = κ (nI (pN (agE s e).1 k)) := by
  have := ag_le (s := s) (e := e)
  rw [aO x.1, ldO (by omega) (by omega), ((x.2.2.2 e he).2 k hk).1]
theorem FnM.l8 {h : smH} {M e k : Nat} {s f g c} (x : FnM h M s f g c) (he : e < s.1.length) (h6 : s.1.length ≤ 6) (hk : k < (agE s e).1.length) {X : smX} (κ : Int32 → smR) : sm_ld (sm_ar PP X h (.ref (M + 8))) .int (nI (1000 * e + k)) κ = κ (nI (pD (agE s e).1 k)) := by
  have := ag_le (s := s) (e := e)
  rw [aO x.2.1, ldO (by omega) (by omega), ((x.2.2.2 e he).2 k hk).2]
theorem MNow.l0 {h : smH} {M : Nat} {s : Sh} (x : MNow h M s) {X : smX} (κ : Int32 → smR) : sm_ld (sm_ar PP X h (.ref (M + 1))) .int (nI 0) κ = κ (nI s.1.length) := by
  obtain ⟨f, c1, c2⟩ := x
  rw [aO c1, ldO (by omega) (by omega), c2.1]
theorem MNow.l1 {h : smH} {M : Nat} {s : Sh} (x : MNow h M s) {X : smX} (κ : Int32 → smR) : sm_ld (sm_ar PP X h (.ref (M + 1))) .int (nI 1) κ = κ (nI s.2.1) := by
  obtain ⟨f, c1, c2⟩ := x
  rw [aO c1, ldO (by omega) (by omega)]
  exact congrArg κ c2.2.1
theorem MNow.l2 {h : smH} {M : Nat} {s : Sh} (x : MNow h M s) {X : smX} (κ : Int32 → smR) : sm_ld (sm_ar PP X h (.ref (M + 1))) .int (nI 2) κ = κ (oI s.2.2) := by
  obtain ⟨f, c1, c2⟩ := x
  rw [aO c1, ldO (by omega) (by omega)]
  exact congrArg κ c2.2.2.1
theorem m147_loop {X : smX} {h : smH} {M : Nat} {st : St} {f g c : Nat → Int32} (r : RepM h M st) (x : FnM h M st.2.1 f g c) : ∀ (d e : Nat) (b : Bool), e + d = st.2.1.1.length → ∃ b2 : Bool, sm_E PP X 147 4 [(0, .ref M), (1, .int (bI b)), (2, .int (nI e))] [] h = some (some (.int (bI b2)), h) ∧ (b2 = true ↔ b = true ∨ ∃ j, e ≤ j ∧ j < st.2.1.1.length ∧ (agE st.2.1 j).1.length = 0) := by
  intro d
  obtain ⟨⟨q, a⟩, -, rn, -⟩ := id r
  have h6 := r.h6
  induction d with
  | zero =>
    intro e b he
    refine ⟨b, ?_, fun h => Or.inl h, fun h => ?_⟩
    · rw [b147_4]
      simp only [fO a, sm_gI_s, sm_gR_s, sm_gJ_s, sm_cR_s, sm_al_s, sm_sw_s, sm_tl1, sm_tl0, sm_ap0, sm_ap1, List.getElem?_cons_zero, List.getElem?_cons_succ, nk10, nk11, if_true, eq_self, rn.l0, nkb]
      rw [if_pos (nI_le (by omega) (by omega))]
    · rcases h with h | ⟨j, h1, h2, -⟩
      · exact h
      · omega
  | succ d ih =>
    intro e b he
    have go : ∀ b1 : Bool, (b1 = true ↔ b = true ∨ (agE st.2.1 e).1.length = 0) → sm_E PP X 147 4 [(0, .ref M), (1, .int (bI b)), (2, .int (nI e))] [] h = sm_E PP X 147 4 [(0, .ref M), (1, .int (bI b1)), (2, .int (nI (e + 1)))] [] h → ∃ b2 : Bool, sm_E PP X 147 4 [(0, .ref M), (1, .int (bI b)), (2, .int (nI e))] [] h = some (some (.int (bI b2)), h) ∧ (b2 = true ↔ b = true ∨ ∃ j, e ≤ j ∧ j < st.2.1.1.length ∧ (agE st.2.1 j).1.length = 0) := fun b1 hb e1 => by
      obtain ⟨b2, e2, q2⟩ := ih (e + 1) b1 (by omega)
      refine ⟨b2, e1.trans e2, fun h => ?_, fun h => q2.mpr ?_⟩
      · rcases q2.mp h with h | ⟨j, h1, h2, h3⟩
        · rcases hb.mp h with h | h
          · exact Or.inl h
          · exact Or.inr ⟨e, Nat.le_refl _, by omega, h⟩
        · exact Or.inr ⟨j, by omega, h2, h3⟩
      · rcases h with h | ⟨j, h1, h2, h3⟩
        · exact Or.inl (hb.mpr (Or.inl h))
        · by_cases e0 : j = e
          · exact Or.inl (hb.mpr (Or.inr (e0 ▸ h3)))
          · exact Or.inr ⟨j, by omega, h2, h3⟩
    have he2 : e < st.2.1.1.length := by omega
    have hl := ag_le (s := st.2.1) (e := e)
    cases b with
    | true =>
      refine go true ⟨fun _ => Or.inl rfl, fun _ => rfl⟩ ?_
      rw [b147_4]
      simp only [fO a, sm_gI_s, sm_gR_s, sm_gJ_s, sm_cR_s, sm_al_s, sm_sw_s, sm_tl1, sm_tl0, sm_ap0, sm_ap1, List.getElem?_cons_zero, List.getElem?_cons_succ, nk10, nk11, if_true, eq_self, rn.l0, b147_27, b147_32, nI_add]
      rw [if_neg (nI_ge he2 (by omega)), if_neg (show ¬ bI true = 0 by decide)]
      rfl
    | false =>
      by_cases hz : (agE st.2.1 e).1.length = 0
      · refine go true ⟨fun _ => Or.inr hz, fun _ => rfl⟩ ?_
        rw [b147_4]
        simp only [fO a, sm_gI_s, sm_gR_s, sm_gJ_s, sm_cR_s, sm_al_s, sm_sw_s, sm_tl1, sm_tl0, sm_ap0, sm_ap1, List.getElem?_cons_zero, List.getElem?_cons_succ, nk10, nk11, if_true, eq_self, rn.l0, b147_27, b147_32, nI_add]
        rw [if_neg (nI_ge he2 (by omega)), if_pos (show bI false = 0 from rfl), x.l9 he2 h6, if_pos (show nI (agE st.2.1 e).1.length = 0 by rw [hz]; rfl)]
        rfl
      · refine go false ⟨fun h => (by cases h), fun h => ?_⟩ ?_
        · rcases h with h | h
          · exact h
          · exact absurd h hz
        · rw [b147_4]
          simp only [fO a, sm_gI_s, sm_gR_s, sm_gJ_s, sm_cR_s, sm_al_s, sm_sw_s, sm_tl1, sm_tl0, sm_ap0, sm_ap1, List.getElem?_cons_zero, List.getElem?_cons_succ, nk10, nk11, if_true, eq_self, rn.l0, b147_27, b147_32, nI_add]
          rw [if_neg (nI_ge he2 (by omega)), if_pos (show bI false = 0 from rfl), x.l9 he2 h6, if_neg (nI_ne0 (by omega) (by omega))]
          rfl
theorem alt_n {s : Sh} : ∀ d i a : Nat, (∀ j, i ≤ j → j < i + d → ¬ (agE s j).1.length = 0) → alt s d i a = a := by
  intro d
  induction d with
  | zero => intro i a h; rfl
  | succ d ih =>
    intro i a h
    unfold alt
    rw [if_neg (h i (by omega) (by omega))]
    exact ih (i + 1) a (fun j h1 h2 => h j (by omega) (by omega))
theorem alt_iff {s : Sh} : alt s s.1.length 0 0 = 0 ↔ ¬ ∃ j, j < s.1.length ∧ (agE s j).1.length = 0 := by
  constructor
  · rintro h ⟨j, h1, h2⟩
    have := alt_0 _ _ _ h j (by omega) (by omega)
    omega
  · intro h
    exact alt_n _ _ _ (fun j _ h2 h3 => h ⟨j, by omega, h3⟩)
/-- isAltered -/
theorem m147 {X : smX} {h : smH} {M : Nat} {st : St} {f g c : Nat → Int32} (r : RepM h M st) (x : FnM h M st.2.1 f g c) : sm_C PP X 147 [.ref M] h = some (some (.int (bI (decide (¬ alt st.2.1 st.2.1.1.length 0 0 = 0)))), h) := by
  obtain ⟨b, e1, q1⟩ := m147_loop (X := X) r x st.2.1.1.length 0 false (by omega)
  have hb : b = decide (¬ alt st.2.1 st.2.1.1.length 0 0 = 0) := by
    have hi := alt_iff (s := st.2.1)
    cases b with
    | true =>
      rcases q1.mp rfl with h | ⟨j, -, h2, h3⟩
      · cases h
      · exact (decide_eq_true (show ¬ alt st.2.1 st.2.1.1.length 0 0 = 0 from fun h => hi.mp h ⟨j, h2, h3⟩)).symm
    | false =>
      refine (decide_eq_false (show ¬ ¬ alt st.2.1 st.2.1.1.length 0 0 = 0 from fun h => h (hi.mpr (fun ⟨j, h2, h3⟩ => ?_)))).symm
      have := q1.mpr (Or.inr ⟨j, by omega, h2, h3⟩)
      cases this
  rw [c147, b147_0, ← hb]
  exact e1
