/-! AGREEING NUMBERS: class Agreeing -/
theorem dwS_le {ws nd : List Nat} : ∀ (r p d o x y : Nat), dwS ws nd r p d o = some (x, y) → x ≤ d + 3 * r := by
  intro r
  induction r with
  | zero =>
    intro p d o x y h
    unfold dwS at h
    cases h
    omega
  | succ r ih =>
    intro p d o x y h
    unfold dwS at h
    split at h
    · split at h
      · have := ih _ _ _ _ _ h; omega
      · split at h
        · have := ih _ _ _ _ _ h; omega
        · have := ih _ _ _ _ _ h; omega
    · cases h
theorem dfS_le {fs : List Nat} : ∀ (p l d x : Nat), dfS fs p l d = some x → x ≤ d + 2 * p := by
  intro p
  induction p with
  | zero =>
    intro l d x h
    unfold dfS at h
    cases h
    omega
  | succ p ih =>
    intro l d x h
    unfold dfS at h
    split at h
    · have := ih _ _ _ h; omega
    · split at h
      · have := ih _ _ _ h; omega
      · split at h
        · have := ih _ _ _ h; omega
        · cases h
theorem dW_le {ws : List Nat} {sl n x : Nat} (hw : ws.length ≤ 31) (h : dW ws sl n = some x) : x ≤ 93 := by
  unfold dW at h
  split at h
  · split at h
    · cases h
    · rename_i d o e
      split at h
      · cases h
        have := dwS_le _ _ _ _ _ _ e
        omega
      · cases h
  · cases h
theorem dF_le {fs : List Nat} {n x : Nat} (hw : fs.length ≤ 3) (h : dF fs n = some x) : x ≤ 6 := by
  unfold dF at h
  split at h
  · have := dfS_le _ _ _ _ h
    omega
  · cases h
/-- the AGREEING NUMBERS from n on, r to look at; how many can be by WORDS, by FIGURES -/
def agl (ws fs : List Nat) (sl : Nat) : Nat → Nat → List (Nat × Nat)
  | 0, _ => []
  | r + 1, n => match dW ws sl n, dF fs n with
    | some a, some b => (n, a + b) :: agl ws fs sl r (n + 1)
    | _, _ => agl ws fs sl r (n + 1)
def cnt (f : Nat → Option Nat) : Nat → Nat → Nat
  | 0, _ => 0
  | r + 1, n => (match f n with
    | some _ => 1
    | none => 0) + cnt f r (n + 1)
abbrev Ag := List (Nat × Nat) × Nat × Nat
def agE (s : Sh) (e : Nat) : Ag := (agl (en s e).1 (en s e).2 s.2.1 1000 0, cnt (dW (en s e).1 s.2.1) 1000 0, cnt (dF (en s e).2) 1000 0)
def pN (l : List (Nat × Nat)) (i : Nat) : Nat := (l.getD i (0, 0)).1
def pD (l : List (Nat × Nat)) (i : Nat) : Nat := (l.getD i (0, 0)).2
def AgrAt (h : smH) (A : Nat) (w : Ag) : Prop := h.1 A = some (.inr (0, [.ref (A + 1), .ref (A + 2), .int (nI w.1.length), .int (nI w.2.1), .int (nI w.2.2)])) ∧ w.1.length ≤ 1000 ∧
  ∃ f g, h.1 (A + 1) = some (.inl (.int, 1000, .inl f)) ∧ h.1 (A + 2) = some (.inl (.int, 1000, .inl g)) ∧ ∀ i, i < w.1.length → f i = nI (pN w.1 i) ∧ g i = nI (pD w.1 i) ∧ pN w.1 i < 1000 ∧ pD w.1 i < 100
theorem AgrAt.fr {h h' : smH} {A lo hi : Nat} {w} (r : AgrAt h A w) (f : Fr h h' lo hi) (hd : A + 3 ≤ lo ∨ hi ≤ A) : AgrAt h' A w := by
  obtain ⟨a, b, g, k, c, d, e⟩ := r
  exact ⟨by rw [f.2 _ (by omega)]; exact a, b, g, k, by rw [f.2 _ (by omega)]; exact c, by rw [f.2 _ (by omega)]; exact d, e⟩
theorem AgrAt.cnt {h : smH} {A bw bf : Nat} {w : Ag} (r : AgrAt h A w) : AgrAt (sm_w h A (.inr (0, [.ref (A + 1), .ref (A + 2), .int (nI w.1.length), .int (nI bw), .int (nI bf)]))) A (w.1, bw, bf) := by
  obtain ⟨a, b, g, k, c, d, e⟩ := r
  exact ⟨w_eq, b, g, k, (w_ne (by omega)).trans c, (w_ne (by omega)).trans d, e⟩
theorem pN_app {l : List (Nat × Nat)} {p : Nat × Nat} {i : Nat} : (l ++ [p]).getD i (0, 0) = if i < l.length then l.getD i (0, 0) else if i = l.length then p else (0, 0) := by
  rw [List.getD_eq_getElem?_getD, List.getD_eq_getElem?_getD]
  by_cases h : i < l.length
  · rw [if_pos h, List.getElem?_append_left h]
  · rw [if_neg h, List.getElem?_append_right (by omega)]
    by_cases h2 : i = l.length
    · subst h2; rw [if_pos rfl, Nat.sub_self]; rfl
    · rw [if_neg h2, List.getElem?_eq_none (by show 1 ≤ _; omega)]; rfl
theorem m66 {X : smX} {h : smH} {A n d : Nat} {w : Ag} (r : AgrAt h A w) (hl : w.1.length < 1000) (hn : n < 1000) (hd : d < 100) : ∃ h', sm_C PP X 66 [.ref A, .int (nI n), .int (nI d)] h = some (none, h') ∧ AgrAt h' A (w.1 ++ [(n, d)], w.2) ∧ Fr h h' A (A + 3) := by
  obtain ⟨a, b, f, g, c, e, q⟩ := r
  have a1 : (sm_w h (A + 1) (.inl (.int, 1000, .inl (upd f w.1.length (nI n))))).1 A = _ := (w_ne (by omega)).trans a
  have e1 : (sm_w h (A + 1) (.inl (.int, 1000, .inl (upd f w.1.length (nI n))))).1 (A + 2) = _ := (w_ne (by omega)).trans e
  have a2 : (sm_w (sm_w h (A + 1) (.inl (.int, 1000, .inl (upd f w.1.length (nI n))))) (A + 2) (.inl (.int, 1000, .inl (upd g w.1.length (nI d))))).1 A = _ := (w_ne (by omega)).trans a1
  have hlen : (w.1 ++ [(n, d)]).length = w.1.length + 1 := by simp
  refine ⟨sm_w (sm_w (sm_w h (A + 1) (.inl (.int, 1000, .inl (upd f w.1.length (nI n))))) (A + 2) (.inl (.int, 1000, .inl (upd g w.1.length (nI d))))) A (.inr (0, [.ref (A + 1), .ref (A + 2), .int (nI (w.1.length + 1)), .int (nI w.2.1), .int (nI w.2.2)])), ?_, ⟨by rw [w_eq, hlen], by rw [hlen]; omega, upd f w.1.length (nI n), upd g w.1.length (nI d), (w_ne (by omega)).trans ((w_ne (by omega)).trans w_eq), (w_ne (by omega)).trans w_eq, fun i hi => ?_⟩, (Fr.w.tr (Fr.w (h := sm_w h (A + 1) _)) (lo := A) (hi := A + 3) (by omega) (by omega) (by omega) (by omega)).tr Fr.w (by omega) (by omega) (by omega) (by omega)⟩
  · rw [c66, b66_0]
    simp only [sm_gI_s, sm_gR_s, sm_gJ_s, sm_cR_s, sm_al_s, sm_sw_s, sm_tl1, sm_tl0, sm_ap0, sm_ap1, List.getElem?_cons_zero, List.getElem?_cons_succ, nk10, nk11, if_true, eq_self, fO a, aO c, aO e]
    rw [if_neg (nI_ge hl (by omega)), if_neg (nI_ge hl (by omega)), stO c hl (by omega)]
    simp only [sm_gI_s, sm_gR_s, sm_gJ_s, sm_cR_s, sm_al_s, sm_sw_s, sm_tl1, sm_tl0, sm_ap0, sm_ap1, List.getElem?_cons_zero, List.getElem?_cons_succ, nk10, nk11, if_true, eq_self, fO a1]
    rw [stO e1 hl (by omega)]
    simp only [sm_gI_s, sm_gR_s, sm_gJ_s, sm_cR_s, sm_al_s, sm_sw_s, sm_tl1, sm_tl0, sm_ap0, sm_ap1, List.getElem?_cons_zero, List.getElem?_cons_succ, nk10, nk11, if_true, eq_self, fO a2, nI_add]
    rw [pO a2 (by show 2 < 5; omega), b66_54]
    rfl
  · rw [hlen] at hi
    unfold pN pD
    rw [pN_app]
    by_cases h2 : i < w.1.length
    · rw [if_pos h2, pk_un (by omega), pk_un (by omega)]
      exact q i h2
    · rw [if_neg h2, if_pos (by omega), show i = w.1.length by omega, pk_us, pk_us]
      exact ⟨rfl, rfl, hn, hd⟩
theorem agl_len {ws fs : List Nat} {sl : Nat} : ∀ r n : Nat, (agl ws fs sl r n).length ≤ r := by
  intro r
  induction r with
  | zero => intro n; exact Nat.le_refl 0
  | succ r ih =>
    intro n
    unfold agl
    have := ih (n + 1)
    split
    · rw [List.length_cons]; omega
    · omega
theorem oI_none {o : Option Nat} (ho : ∀ k, o = some k → k < 1000) : (oI o = -nI 9) = (o = none) := by
  cases o with
  | none => exact propext ⟨fun _ => rfl, fun _ => rfl⟩
  | some k => exact propext ⟨fun h => absurd h (neg9_ne (by have := ho k rfl; omega)), fun h => by cases h⟩
theorem m67_loop {X : smX} {A v f N sl c1 c2 : Nat} {ws fs : List Nat} (hsl : sl ≤ 2) (d1 : v + 2 ≤ A ∨ A + 3 ≤ v) (d2 : f + 2 ≤ A ∨ A + 3 ≤ f) (d3 : N + 3 ≤ A ∨ A + 3 ≤ N) (hc1 : c1 ≤ 31) (hc2 : c2 ≤ 3) : ∀ (d n : Nat), n + d = 1000 → ∀ (h : smH) (w : Ag), AgrAt h A w → w.1.length ≤ n → w.2.1 ≤ n → w.2.2 ≤ n → RowAt h v c1 ws → RowAt h f c2 fs → NWAt h N spN → ∃ h', sm_E PP X 67 18 [(0, .ref A), (1, .ref v), (2, .ref f), (3, .int (nI sl)), (4, .ref N), (5, .int (nI n))] [] h = some (none, h') ∧ AgrAt h' A (w.1 ++ agl ws fs sl d n, w.2.1 + cnt (dW ws sl) d n, w.2.2 + cnt (dF fs) d n) ∧ Fr h h' A (A + 3) := by
  intro d
  induction d with
  | zero =>
    intro n hn h w r l1 l2 l3 rv rf rN
    refine ⟨h, ?_, ?_, Fr.rf⟩
    · rw [b67_18, if_pos (nI_le (by omega) (by omega))]
    · unfold agl cnt
      rw [List.append_nil]
      exact r
  | succ d ih =>
    intro n hn h w r l1 l2 l3 rv rf rN
    have hW : ∀ k, dW ws sl n = some k → k ≤ 93 := fun k hk => dW_le (by have := rv.2.1; omega) hk
    have hF : ∀ k, dF fs n = some k → k ≤ 6 := fun k hk => dF_le (by have := rf.2.1; omega) hk
    have nW : (oI (dW ws sl n) = -nI 9) = (dW ws sl n = none) := oI_none (fun k hk => by have := hW k hk; omega)
    have nF : (oI (dF fs n) = -nI 9) = (dF fs n = none) := oI_none (fun k hk => by have := hF k hk; omega)
    have hE : ∀ h1, NWAt h1 N spN → RowAt h1 v c1 ws → RowAt h1 f c2 fs → sm_E PP X 67 18 [(0, .ref A), (1, .ref v), (2, .ref f), (3, .int (nI sl)), (4, .ref N), (5, .int (nI n))] [] h1 = sm_E PP X 67 43 [(0, .ref A), (1, .ref v), (2, .ref f), (3, .int (nI sl)), (4, .ref N), (5, .int (nI n)), (6, .int (oI (dW ws sl n)))] [.int (oI (dF fs n))] h1 := fun h1 q1 q2 q3 => by
      rw [b67_18]
      simp only [vO q1.1, m62 q1 q2 (show n < 1000 by omega) hsl, sm_gI_s, sm_gR_s, sm_gJ_s, sm_cR_s, sm_al_s, sm_sw_s, sm_tl1, sm_tl0, sm_ap0, sm_ap1, List.getElem?_cons_zero, List.getElem?_cons_succ, nk10, nk11, if_true, eq_self, b67_35, m65 q3 (show n < 1000 by omega)]
      rw [if_neg (nI_ge (by omega) (by omega))]
    have hS : ∀ (h1 : smH) (w1 : Ag), AgrAt h1 A w1 → Fr h h1 A (A + 3) → w1.1 = w.1 ++ (match dW ws sl n, dF fs n with
        | some a, some b => [(n, a + b)]
        | _, _ => []) → w1.2.1 = w.2.1 + (match dW ws sl n with
        | some _ => 1
        | none => 0) → w1.2.2 = w.2.2 + (match dF fs n with
        | some _ => 1
        | none => 0) → ∃ h', sm_E PP X 67 104 [(0, .ref A), (1, .ref v), (2, .ref f), (3, .int (nI sl)), (4, .ref N), (5, .int (nI n))] [] h1 = some (none, h') ∧ AgrAt h' A (w.1 ++ agl ws fs sl (d + 1) n, w.2.1 + cnt (dW ws sl) (d + 1) n, w.2.2 + cnt (dF fs) (d + 1) n) ∧ Fr h h' A (A + 3) := by
      intro h1 w1 q1 f1 e1 e2 e3
      rw [b67_104, nI_add]
      obtain ⟨h2, x2, q2, f2⟩ := ih (n + 1) (by omega) h1 w1 q1 (by rw [e1, List.length_append]; split <;> simp <;> omega) (by rw [e2]; split <;> omega) (by rw [e3]; split <;> omega) (rv.fr f1 (by omega)) (rf.fr f1 (by omega)) (rN.fr f1 (by omega))
      refine ⟨h2, x2, ?_, f1.s f2⟩
      have g1 : w1.1 ++ agl ws fs sl d (n + 1) = w.1 ++ agl ws fs sl (d + 1) n := by
        rw [e1, List.append_assoc]
        congr 1
        conv => rhs; unfold agl
        cases dW ws sl n <;> cases dF fs n <;> rfl
      have g2 : w1.2.1 + cnt (dW ws sl) d (n + 1) = w.2.1 + cnt (dW ws sl) (d + 1) n := by
        rw [e2, Nat.add_assoc]; rfl
      have g3 : w1.2.2 + cnt (dF fs) d (n + 1) = w.2.2 + cnt (dF fs) (d + 1) n := by
        rw [e3, Nat.add_assoc]; rfl
      rw [g1, g2, g3] at q2
      exact q2
    rw [hE h rN rv rf, b67_43]
    simp only [nW, nF, b67_62, b67_79, fO r.1, sm_gI_s, sm_gR_s, sm_gJ_s, sm_cR_s, sm_al_s, sm_sw_s, sm_tl1, sm_tl0, sm_ap0, sm_ap1, List.getElem?_cons_zero, List.getElem?_cons_succ, nk10, nk11, if_true, eq_self, nI_add]
    cases eW : dW ws sl n with
    | none =>
      rw [eW] at hS
      rw [if_pos rfl]
      cases eF : dF fs n with
      | none =>
        rw [eF] at hS
        rw [if_pos rfl, if_pos rfl]
        exact hS h w r Fr.rf (List.append_nil _).symm rfl rfl
      | some b =>
        rw [eF] at hS
        rw [if_neg (by intro q; cases q), pO r.1 (by show 4 < 5; omega), if_pos rfl]
        exact hS _ (w.1, w.2.1, w.2.2 + 1) r.cnt (Fr.w.mono (by omega) (by omega)) (List.append_nil _).symm rfl rfl
    | some a =>
      have ha := hW a eW
      rw [eW] at hS
      have g1 : (sm_w h A (.inr (0, [.ref (A + 1), .ref (A + 2), .int (nI w.1.length), .int (nI (w.2.1 + 1)), .int (nI w.2.2)]))).1 A = _ := w_eq
      rw [if_neg (by intro q; cases q), pO r.1 (by show 3 < 5; omega)]
      simp only [List.set, fO g1, sm_gI_s, sm_gR_s, sm_gJ_s, sm_cR_s, sm_al_s, sm_sw_s, sm_tl1, sm_tl0, sm_ap0, sm_ap1, List.getElem?_cons_zero, List.getElem?_cons_succ, nk10, nk11, if_true, eq_self, nI_add]
      cases eF : dF fs n with
      | none =>
        rw [eF] at hS
        rw [if_pos rfl, if_neg (by intro q; cases q), if_pos rfl]
        exact hS _ (w.1, w.2.1 + 1, w.2.2) r.cnt (Fr.w.mono (by omega) (by omega)) (List.append_nil _).symm rfl rfl
      | some b =>
        have hb := hF b eF
        rw [eF] at hS
        have r1 := r.cnt (bw := w.2.1 + 1) (bf := w.2.2)
        have r2 := r1.cnt (bw := w.2.1 + 1) (bf := w.2.2 + 1)
        obtain ⟨h3, x3, q3, f3⟩ := m66 (X := X) (n := n) (d := a + b) r2 (by show w.1.length < 1000; omega) (by omega) (by omega)
        rw [if_neg (by intro q; cases q), pO g1 (by show 4 < 5; omega), if_neg (by intro q; cases q), if_neg (by intro q; cases q), oIs, oIs, nI_add]
        simp only [List.set]
        rw [vO w_eq, x3]
        simp only [sm_gI_s, sm_gR_s, sm_gJ_s, sm_cR_s, sm_al_s, sm_sw_s, sm_tl1, sm_tl0, sm_ap0, sm_ap1, List.getElem?_cons_zero, List.getElem?_cons_succ, nk10, nk11, if_true, eq_self]
        exact hS h3 _ q3 (((Fr.w.mono (by omega) (by omega)).s (Fr.w.mono (lo := A) (hi := A + 3) (by omega) (by omega))).s f3) rfl rfl rfl
/-- find -/
theorem m67 {X : smX} {h : smH} {A v f N sl c1 c2 : Nat} {ws fs : List Nat} {w : Ag} (hsl : sl ≤ 2) (d1 : v + 2 ≤ A ∨ A + 3 ≤ v) (d2 : f + 2 ≤ A ∨ A + 3 ≤ f) (d3 : N + 3 ≤ A ∨ A + 3 ≤ N) (hc1 : c1 ≤ 31) (hc2 : c2 ≤ 3) (r : AgrAt h A w) (rv : RowAt h v c1 ws) (rf : RowAt h f c2 fs) (rN : NWAt h N spN) : ∃ h', sm_C PP X 67 [.ref A, .ref v, .ref f, .int (nI sl), .ref N] h = some (none, h') ∧ AgrAt h' A (agl ws fs sl 1000 0, cnt (dW ws sl) 1000 0, cnt (dF fs) 1000 0) ∧ Fr h h' A (A + 3) := by
  have g1 : (sm_w h A (.inr (0, [.ref (A + 1), .ref (A + 2), .int (nI 0), .int (nI w.2.1), .int (nI w.2.2)]))).1 A = _ := w_eq
  have g2 : (sm_w (sm_w h A (.inr (0, [.ref (A + 1), .ref (A + 2), .int (nI 0), .int (nI w.2.1), .int (nI w.2.2)]))) A (.inr (0, [.ref (A + 1), .ref (A + 2), .int (nI 0), .int (nI 0), .int (nI w.2.2)]))).1 A = _ := w_eq
  have k : Fr h (sm_w (sm_w (sm_w h A (.inr (0, [.ref (A + 1), .ref (A + 2), .int (nI 0), .int (nI w.2.1), .int (nI w.2.2)]))) A (.inr (0, [.ref (A + 1), .ref (A + 2), .int (nI 0), .int (nI 0), .int (nI w.2.2)]))) A (.inr (0, [.ref (A + 1), .ref (A + 2), .int (nI 0), .int (nI 0), .int (nI 0)]))) A (A + 3) := (Fr.w.s (Fr.w.s Fr.w)).mono (by omega) (by omega)
  have k1 : Fr h (sm_w (sm_w (sm_w h A (.inr (0, [.ref (A + 1), .ref (A + 2), .int (nI 0), .int (nI w.2.1), .int (nI w.2.2)]))) A (.inr (0, [.ref (A + 1), .ref (A + 2), .int (nI 0), .int (nI 0), .int (nI w.2.2)]))) A (.inr (0, [.ref (A + 1), .ref (A + 2), .int (nI 0), .int (nI 0), .int (nI 0)]))) A (A + 1) := Fr.w.s (Fr.w.s Fr.w)
  obtain ⟨a, b, p, q, c, e, z⟩ := r
  obtain ⟨h', x, y, f1⟩ := m67_loop (X := X) (w := ([], 0, 0)) hsl d1 d2 d3 hc1 hc2 1000 0 (by omega) _ ⟨w_eq, by show 0 ≤ 1000; omega, p, q, (k1.2 _ (by omega)).trans c, (k1.2 _ (by omega)).trans e, fun i hi => absurd hi (Nat.not_lt_zero i)⟩ (by show 0 ≤ 0; omega) (by show 0 ≤ 0; omega) (by show 0 ≤ 0; omega) (rv.fr k (by omega)) (rf.fr k (by omega)) (rN.fr k (by omega))
  rw [List.nil_append, Nat.zero_add, Nat.zero_add] at y
  refine ⟨h', ?_, y, k.s f1⟩
  rw [c67, b67_0, pO a (by show 2 < 5; omega)]
  simp only [List.set]
  rw [pO g1 (by show 3 < 5; omega)]
  simp only [List.set]
  rw [pO g2 (by show 4 < 5; omega)]
  exact x
theorem m74 {X : smX} {h : smH} {A i : Nat} {w : Ag} (r : AgrAt h A w) (hi : i < w.1.length) : sm_C PP X 74 [.ref A, .int (nI i)] h = some (some (.int (nI (pD w.1 i))), h) := by
  obtain ⟨a, b, f, g, c, e, q⟩ := r
  rw [c74, b74_0]
  simp only [sm_gI_s, sm_gR_s, sm_gJ_s, sm_cR_s, sm_al_s, sm_sw_s, sm_tl1, sm_tl0, sm_ap0, sm_ap1, List.getElem?_cons_zero, List.getElem?_cons_succ, nk10, nk11, if_true, eq_self, fO a, aO e, b74_30, b74_32]
  rw [if_neg (nI_pos (by omega)), if_neg (nI_ge hi (by omega)), if_neg (nI_ge (by omega) (by omega)), ldO (by omega) (by omega), (q i hi).2.1]
theorem m77 {X : smX} {h : smH} {A i : Nat} {w : Ag} (r : AgrAt h A w) (hi : i < w.1.length) : sm_C PP X 77 [.ref A, .int (nI i)] h = some (some (.int (nI (pN w.1 i))), h) := by
  obtain ⟨a, b, f, g, c, e, q⟩ := r
  rw [c77, b77_0]
  simp only [sm_gI_s, sm_gR_s, sm_gJ_s, sm_cR_s, sm_al_s, sm_sw_s, sm_tl1, sm_tl0, sm_ap0, sm_ap1, List.getElem?_cons_zero, List.getElem?_cons_succ, nk10, nk11, if_true, eq_self, fO a, aO c, b77_30, b77_32]
  rw [if_neg (nI_pos (by omega)), if_neg (nI_ge hi (by omega)), if_neg (nI_ge (by omega) (by omega)), ldO (by omega) (by omega), (q i hi).1]
def top (l : List (Nat × Nat)) : Nat := if l.length = 0 then 0 else pN l (l.length - 1)
theorem m83 {X : smX} {h : smH} {A : Nat} {w : Ag} (r : AgrAt h A w) : sm_C PP X 83 [.ref A] h = some (some (.int (nI (top w.1))), h) := by
  have hb := r.2.1
  rw [c83, b83_0]
  simp only [sm_gI_s, sm_gR_s, sm_gJ_s, sm_cR_s, sm_al_s, sm_sw_s, sm_tl1, sm_tl0, sm_ap0, sm_ap1, List.getElem?_cons_zero, List.getElem?_cons_succ, nk10, nk11, if_true, eq_self, fO r.1, b83_21, vO r.1]
  unfold top
  by_cases hz : w.1.length = 0
  · rw [hz, if_pos (by decide), if_pos rfl]
  · rw [if_neg (nI_ne0 (by omega) (by omega)), if_neg hz, pk_sub (by omega), m77 r (by omega)]
    simp only [sm_gI_s, sm_gR_s, sm_gJ_s, sm_cR_s, sm_al_s, sm_sw_s, sm_tl1, sm_tl0, sm_ap0, sm_ap1, List.getElem?_cons_zero, List.getElem?_cons_succ, nk10, nk11, if_true, eq_self, b83_21]
/-- how many are RANKED ahead of the i-th -/
def ahd (l : List (Nat × Nat)) (i : Nat) : Nat → Nat → Nat → Nat
  | 0, _, a => a
  | r + 1, j, a => if pD l j < pD l i ∨ (pD l j = pD l i ∧ j < i) then ahd l i r (j + 1) (a + 1) else ahd l i r (j + 1) a
theorem m75_loop {X : smX} {h : smH} {A i : Nat} {w : Ag} (r : AgrAt h A w) (hi : i < w.1.length) : ∀ (d j a : Nat), j + d = w.1.length → sm_E PP X 75 4 [(0, .ref A), (1, .int (nI i)), (2, .int (nI a)), (3, .int (nI j))] [] h = some (some (.int (nI (ahd w.1 i d j a))), h) := by
  intro d
  have hb := r.2.1
  have hD : ∀ i, i < w.1.length → pD w.1 i < 100 := fun i hi => (r.2.2.choose_spec.choose_spec.2.2 i hi).2.2.2
  have hDi := hD i hi
  induction d with
  | zero =>
    intro j a hj
    rw [b75_4]
    simp only [sm_gI_s, sm_gR_s, sm_gJ_s, sm_cR_s, sm_al_s, sm_sw_s, sm_tl1, sm_tl0, sm_ap0, sm_ap1, List.getElem?_cons_zero, List.getElem?_cons_succ, nk10, nk11, if_true, eq_self, fO r.1]
    rw [if_pos (nI_le (by omega) (by omega))]
    rfl
  | succ d ih =>
    intro j a hj
    have hDj := hD j (by omega)
    rw [b75_4]
    simp only [sm_gI_s, sm_gR_s, sm_gJ_s, sm_cR_s, sm_al_s, sm_sw_s, sm_tl1, sm_tl0, sm_ap0, sm_ap1, List.getElem?_cons_zero, List.getElem?_cons_succ, nk10, nk11, if_true, eq_self, fO r.1, vO r.1, m74 r (show j < w.1.length by omega), m74 r hi, b75_17, b75_22, b75_30, b75_37, b75_42, b75_54, b75_55, b75_67, b75_70, nI_add, nI_leI (show pD w.1 i < 2 ^ 31 by omega) (show pD w.1 j < 2 ^ 31 by omega), nI_eq (show pD w.1 j < 2 ^ 31 by omega) (show pD w.1 i < 2 ^ 31 by omega), nI_leI (show i < 2 ^ 31 by omega) (show j < 2 ^ 31 by omega)]
    rw [if_neg (nI_ge (by omega) (by omega))]
    unfold ahd
    have n0 : (nI 0 : Int32) = 0 := rfl
    have n1 : ¬ (nI 1 : Int32) = 0 := by decide
    by_cases h1 : pD w.1 i ≤ pD w.1 j
    · rw [if_pos h1]
      by_cases h2 : pD w.1 j = pD w.1 i
      · rw [if_pos h2]
        by_cases h3 : i ≤ j
        · rw [if_pos h3, if_pos n0, if_pos n0, if_neg (by omega)]
          exact ih (j + 1) a (by omega)
        · rw [if_neg h3, if_pos n0, if_neg n1, if_pos (by omega)]
          exact ih (j + 1) (a + 1) (by omega)
      · rw [if_neg h2, if_pos n0, if_pos n0, if_neg (by omega)]
        exact ih (j + 1) a (by omega)
    · rw [if_neg h1, if_pos (show pD w.1 j < pD w.1 i ∨ (pD w.1 j = pD w.1 i ∧ j < i) by omega), ← ih (j + 1) (a + 1) (by omega)]
      simp only [if_neg n1, if_pos n0]
      split
      · split
        · rfl
        · rfl
      · rfl
theorem m75 {X : smX} {h : smH} {A i : Nat} {w : Ag} (r : AgrAt h A w) (hi : i < w.1.length) : sm_C PP X 75 [.ref A, .int (nI i)] h = some (some (.int (nI (ahd w.1 i w.1.length 0 0))), h) := by
  rw [c75, b75_0]
  exact m75_loop r hi w.1.length 0 0 (by omega)
theorem ahd_le {l : List (Nat × Nat)} {i : Nat} : ∀ d j a : Nat, ahd l i d j a ≤ a + d := by
  intro d
  induction d with
  | zero => intro j a; exact Nat.le_refl _
  | succ d ih =>
    intro j a
    unfold ahd
    split
    · have := ih (j + 1) (a + 1); omega
    · have := ih (j + 1) a; omega
/-- where the k-th as RANKED stands -/
def ixR (l : List (Nat × Nat)) (k : Nat) : Nat → Nat → Option Nat
  | 0, _ => none
  | r + 1, i => if ahd l i l.length 0 0 = k then some i else ixR l k r (i + 1)
theorem m76_loop {X : smX} {h : smH} {A k : Nat} {w : Ag} (r : AgrAt h A w) (hk : k < 2 ^ 31) : ∀ (d i : Nat), i + d = w.1.length → sm_E PP X 76 2 [(0, .ref A), (1, .int (nI k)), (2, .int (nI i))] [] h = some (some (.int (oI (ixR w.1 k d i))), h) := by
  intro d
  have hb := r.2.1
  induction d with
  | zero =>
    intro i hi
    rw [b76_2]
    simp only [sm_gI_s, sm_gR_s, sm_gJ_s, sm_cR_s, sm_al_s, sm_sw_s, sm_tl1, sm_tl0, sm_ap0, sm_ap1, List.getElem?_cons_zero, List.getElem?_cons_succ, nk10, nk11, if_true, eq_self, fO r.1]
    rw [if_pos (nI_le (by omega) (by omega))]
    rfl
  | succ d ih =>
    intro i hi
    have ha := ahd_le (l := w.1) (i := i) w.1.length 0 0
    rw [b76_2]
    simp only [sm_gI_s, sm_gR_s, sm_gJ_s, sm_cR_s, sm_al_s, sm_sw_s, sm_tl1, sm_tl0, sm_ap0, sm_ap1, List.getElem?_cons_zero, List.getElem?_cons_succ, nk10, nk11, if_true, eq_self, fO r.1, vO r.1, m75 r (show i < w.1.length by omega), b76_15, nI_add, nI_eq (show ahd w.1 i w.1.length 0 0 < 2 ^ 31 by omega) hk]
    rw [if_neg (nI_ge (by omega) (by omega))]
    unfold ixR
    by_cases h1 : ahd w.1 i w.1.length 0 0 = k
    · rw [if_pos h1, if_pos h1]; rfl
    · rw [if_neg h1, if_neg h1]
      exact ih (i + 1) (by omega)
theorem m76 {X : smX} {h : smH} {A k : Nat} {w : Ag} (r : AgrAt h A w) (hk : k < 2 ^ 31) : sm_C PP X 76 [.ref A, .int (nI k)] h = some (some (.int (oI (ixR w.1 k w.1.length 0))), h) := by
  rw [c76, b76_0]
  exact m76_loop r hk w.1.length 0 (by omega)
theorem ixR_lt {l : List (Nat × Nat)} {k x : Nat} : ∀ r i : Nat, i + r = l.length → ixR l k r i = some x → x < l.length := by
  intro r
  induction r with
  | zero => intro i hi h; cases h
  | succ r ih =>
    intro i hi h
    unfold ixR at h
    split at h
    · cases h; omega
    · exact ih (i + 1) (by omega) h
