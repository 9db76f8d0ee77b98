/-! how many; AGREEING, of the reference -/
theorem m133_w {X : smX} {M e : Nat} {st : St} (he : e < st.2.1.1.length) : ∀ (d v c : Nat), v + d = 1000 → ∀ h : smH, RepM h M st → ∃ h', sm_E PP X 133 5 [(0, .ref M), (1, .int (nI e)), (2, .int (nI 0)), (3, .int (nI c)), (4, .int (nI v))] [] h = some (some (.int (nI (c + cnt (dW (en st.2.1 e).1 st.2.1.2.1) d v))), h') ∧ RepM h' M st ∧ Fm h h' M := by
  intro d
  induction d with
  | zero =>
    intro v c hv h r
    refine ⟨h, ?_, r, Fm.rf⟩
    rw [b133_5, if_pos (nI_le (by omega) (by omega))]
    rfl
  | succ d ih =>
    intro v c hv h r
    obtain ⟨⟨q, a⟩, -, ⟨f0, i0, c2⟩, -⟩ := id r
    have hw31 : (en st.2.1 e).1.length ≤ 31 := (c2.2.2.2.2 e he).2.1
    obtain ⟨h1, e1, r1, k1⟩ := m130 (X := X) r he (show v < 1000 by omega)
    have n9 : (oI (dW (en st.2.1 e).1 st.2.1.2.1 v) = -nI 9) = (dW (en st.2.1 e).1 st.2.1.2.1 v = none) := oI_none (fun i hi => by have := dW_le hw31 hi; omega)
    rw [b133_5, if_neg (nI_ge (by omega) (by omega)), if_pos (show (nI 0 : Int32) = 0 from rfl), vO a, e1]
    simp only [sm_gI_s, sm_gR_s, sm_gJ_s, sm_cR_s, sm_al_s, sm_sw_s, sm_tl1, sm_tl0, sm_ap0, sm_ap1, List.getElem?_cons_zero, List.getElem?_cons_succ, nk10, nk11, if_true, eq_self, b133_25, b133_35, n9, b133_45, nI_add]
    unfold cnt
    cases ed : dW (en st.2.1 e).1 st.2.1.2.1 v with
    | none =>
      obtain ⟨h2, e2, r2, k2⟩ := ih (v + 1) (c + 0) (by omega) h1 r1
      refine ⟨h2, ?_, r2, k1.tr k2⟩
      rw [if_pos rfl, e2, Nat.add_assoc]
    | some y =>
      obtain ⟨h2, e2, r2, k2⟩ := ih (v + 1) (c + 1) (by omega) h1 r1
      refine ⟨h2, ?_, r2, k1.tr k2⟩
      rw [if_neg (by intro q; cases q), e2, Nat.add_assoc]
theorem m133_f {X : smX} {h : smH} {M e : Nat} {st : St} (he : e < st.2.1.1.length) (r : RepM h M st) : ∀ (d v c : Nat), v + d = 1000 → sm_E PP X 133 5 [(0, .ref M), (1, .int (nI e)), (2, .int (nI 1)), (3, .int (nI c)), (4, .int (nI v))] [] h = some (some (.int (nI (c + cnt (dF (en st.2.1 e).2) d v))), h) := by
  intro d
  induction d with
  | zero =>
    intro v c hv
    rw [b133_5, if_pos (nI_le (by omega) (by omega))]
    rfl
  | succ d ih =>
    intro v c hv
    obtain ⟨⟨q, a⟩, -, ⟨f0, i0, c2⟩, -⟩ := id r
    have hw3 : (en st.2.1 e).2.length ≤ 3 := (c2.2.2.2.2 e he).2.2.1
    have e1 := m132 (X := X) r he (show v < 1000 by omega)
    have n9 : (oI (dF (en st.2.1 e).2 v) = -nI 9) = (dF (en st.2.1 e).2 v = none) := oI_none (fun i hi => by have := dF_le hw3 hi; omega)
    rw [b133_5, if_neg (nI_ge (by omega) (by omega)), if_neg (show ¬ (nI 1 : Int32) = 0 by decide), vO a, e1]
    simp only [sm_gI_s, sm_gR_s, sm_gJ_s, sm_cR_s, sm_al_s, sm_sw_s, sm_tl1, sm_tl0, sm_ap0, sm_ap1, List.getElem?_cons_zero, List.getElem?_cons_succ, nk10, nk11, if_true, eq_self, b133_35, n9, b133_45, nI_add]
    unfold cnt
    cases ed : dF (en st.2.1 e).2 v with
    | none => rw [if_pos rfl, ih (v + 1) (c + 0) (by omega), Nat.add_assoc]
    | some y => rw [if_neg (by intro q; cases q), ih (v + 1) (c + 1) (by omega), Nat.add_assoc]
theorem sc_w {h : smH} {a b : Nat} {ty ty2 : FieldType} {n n2 : Nat} {f0 f g : Nat → Int32} (ho : h.1 a = some (.inl (ty, n, .inl f0))) (x : h.1 b = some (.inl (ty2, n2, .inl g))) : ∃ g', (sm_w h a (.inl (ty, n, .inl f))).1 b = some (.inl (ty2, n2, .inl g')) := by
  by_cases e : b = a
  · subst e
    rw [ho] at x
    cases x
    exact ⟨f, w_eq⟩
  · exact ⟨g, (w_ne e).trans x⟩
/-- what lies behind the sheets is written over -/
theorem RepM.w {h : smH} {M a n : Nat} {ty : FieldType} {f0 f : Nat → Int32} {st : St} (r : RepM h M st) (ho : h.1 a = some (.inl (ty, n, .inl f0))) (h1 : M + 6 ≤ a) : RepM (sm_w h a (.inl (ty, n, .inl f))) M st := by
  obtain ⟨⟨q, a0⟩, b, c, d, e, ⟨⟨f1, a1⟩, ⟨f2, a2⟩, ⟨f3, a3⟩, ⟨f4, a4⟩, ⟨f5, a5⟩, ⟨f6, a6⟩, ⟨f7, a7⟩, ⟨f8, a8⟩, ⟨f9, a9⟩, f10, a10⟩⟩ := r
  have k : Fr h (sm_w h a (.inl (ty, n, .inl f))) a (a + 1) := Fr.w
  exact ⟨⟨q, a0.fr k (by omega)⟩, b.fr k (by omega), c.fr k (by omega), d.fr k (by omega), e.fr k (by omega), sc_w ho a1, sc_w ho a2, sc_w ho a3, sc_w ho a4, sc_w ho a5, sc_w ho a6, sc_w ho a7, sc_w ho a8, sc_w ho a9, sc_w ho a10⟩
theorem agl_n {ws fs : List Nat} {sl r n : Nat} (h : dF fs n = none ∨ dW ws sl n = none) : agl ws fs sl (r + 1) n = agl ws fs sl r (n + 1) := by
  conv => lhs; unfold agl
  rcases h with h | h
  · rw [h]
    cases dW ws sl n <;> rfl
  · rw [h]
theorem agl_s {ws fs : List Nat} {sl r n a b : Nat} (h1 : dW ws sl n = some a) (h2 : dF fs n = some b) : agl ws fs sl (r + 1) n = (n, a + b) :: agl ws fs sl r (n + 1) := by
  conv => lhs; unfold agl
  rw [h1, h2]
theorem pN_mid {pre t : List (Nat × Nat)} {v y : Nat} : pN (pre ++ (v, y) :: t) pre.length = v ∧ pD (pre ++ (v, y) :: t) pre.length = y := by
  unfold pN pD
  rw [List.getD_eq_getElem?_getD, List.getElem?_append_right (Nat.le_refl _), Nat.sub_self]
  exact ⟨rfl, rfl⟩
def AgM (h : smH) (M : Nat) (s : Sh) (E : Nat → Bool) : Prop := ∃ f g c, IA h (M + 7) 6000 f ∧ IA h (M + 8) 6000 g ∧ IA h (M + 9) 6 c ∧ ∀ e, e < s.1.length → E e = true → c e = nI (agE s e).1.length ∧ ∀ k, k < (agE s e).1.length → f (1000 * e + k) = nI (pN (agE s e).1 k) ∧ g (1000 * e + k) = nI (pD (agE s e).1 k)
theorem AgM.fr {h h' : smH} {M lo hi : Nat} {s E} (x : AgM h M s E) (k : Fr h h' lo hi) (hd : M + 9 < lo ∨ hi ≤ M + 7) : AgM h' M s E := by
  obtain ⟨f, g, c, a1, a2, a3, a4⟩ := x
  exact ⟨f, g, c, a1.fr k (by omega), a2.fr k (by omega), a3.fr k (by omega), a4⟩
theorem AgM.fm {h h' : smH} {M : Nat} {s E} (x : AgM h M s E) (k : Fm h h' M) : AgM h' M s E := by
  obtain ⟨f, g, c, a1, a2, a3, a4⟩ := x
  exact ⟨f, g, c, k.ia a1 (by omega) (by omega), k.ia a2 (by omega) (by omega), k.ia a3 (by omega) (by omega), a4⟩
theorem RepM.ag {h : smH} {M : Nat} {st : St} (r : RepM h M st) : AgM h M st.2.1 (fun _ => false) := by
  obtain ⟨-, -, -, -, -, -, ⟨f, a1⟩, ⟨g, a2⟩, ⟨c, a3⟩, -⟩ := r
  exact ⟨f, g, c, a1, a2, a3, fun e _ q => by cases q⟩
theorem m134_loop {X : smX} {M e : Nat} {st : St} {c0 : Nat → Int32} (he : e < st.2.1.1.length) (h6 : st.2.1.1.length ≤ 6) : ∀ (d v : Nat) (pre : List (Nat × Nat)), v + d = 1000 → pre.length ≤ v → (agE st.2.1 e).1 = pre ++ agl (en st.2.1 e).1 (en st.2.1 e).2 st.2.1.2.1 d v → ∀ (h : smH) (f g : Nat → Int32), RepM h M st → IA h (M + 7) 6000 f → IA h (M + 8) 6000 g → IA h (M + 9) 6 c0 → (∀ k, k < pre.length → f (1000 * e + k) = nI (pN (agE st.2.1 e).1 k) ∧ g (1000 * e + k) = nI (pD (agE st.2.1 e).1 k)) →
  ∃ h' f' g', sm_E PP X 134 4 [(0, .ref M), (1, .int (nI e)), (2, .int (nI pre.length)), (3, .int (nI v))] [] h = some (none, h') ∧ RepM h' M st ∧ IA h' (M + 7) 6000 f' ∧ IA h' (M + 8) 6000 g' ∧ IA h' (M + 9) 6 (upd c0 e (nI (agE st.2.1 e).1.length)) ∧ (∀ k, k < (agE st.2.1 e).1.length → f' (1000 * e + k) = nI (pN (agE st.2.1 e).1 k) ∧ g' (1000 * e + k) = nI (pD (agE st.2.1 e).1 k)) ∧ (∀ x, x < 1000 * e ∨ 1000 * e + 1000 ≤ x → f' x = f x ∧ g' x = g x) ∧ Fr h h' M (M + 16) := by
  intro d
  induction d with
  | zero =>
    intro v pre hv hp hL h f g r i7 i8 i9 hk
    have hL2 : (agE st.2.1 e).1 = pre := hL.trans (List.append_nil _)
    obtain ⟨⟨q, a⟩, -⟩ := id r
    have k1 : Fr h (sm_w h (M + 9) (.inl (.int, 6, .inl (upd c0 e (nI pre.length))))) (M + 9) (M + 9 + 1) := Fr.w
    refine ⟨sm_w h (M + 9) (.inl (.int, 6, .inl (upd c0 e (nI pre.length)))), f, g, ?_, r.w i9 (by omega), i7.fr k1 (by omega), i8.fr k1 (by omega), by rw [hL2]; exact w_eq, fun k hk2 => hk k (by rw [hL2] at hk2; exact hk2), fun x _ => ⟨rfl, rfl⟩, k1.mono (by omega) (by omega)⟩
    rw [b134_4, if_pos (nI_le (by omega) (by omega))]
    simp only [fO a, sm_gI_s, sm_gR_s, sm_gJ_s, sm_cR_s, sm_al_s, sm_sw_s, sm_tl1, sm_tl0, sm_ap0, sm_ap1, List.getElem?_cons_zero, List.getElem?_cons_succ, nk10, nk11, if_true, eq_self]
    rw [stO i9 (show e < 6 by omega) (by omega)]
  | succ d ih =>
    intro v pre hv hp hL h f g r i7 i8 i9 hk
    obtain ⟨⟨q, a⟩, -, ⟨f0, i0, c2⟩, -⟩ := id r
    have hw31 : (en st.2.1 e).1.length ≤ 31 := (c2.2.2.2.2 e he).2.1
    have hw3 : (en st.2.1 e).2.length ≤ 3 := (c2.2.2.2.2 e he).2.2.1
    have nF : (oI (dF (en st.2.1 e).2 v) = -nI 9) = (dF (en st.2.1 e).2 v = none) := oI_none (fun i hi => by have := dF_le hw3 hi; omega)
    have nW : (oI (dW (en st.2.1 e).1 st.2.1.2.1 v) = -nI 9) = (dW (en st.2.1 e).1 st.2.1.2.1 v = none) := oI_none (fun i hi => by have := dW_le hw31 hi; omega)
    rw [b134_4, if_neg (nI_ge (by omega) (by omega)), vO a, m132 r he (show v < 1000 by omega)]
    simp only [sm_gI_s, sm_gR_s, sm_gJ_s, sm_cR_s, sm_al_s, sm_sw_s, sm_tl1, sm_tl0, sm_ap0, sm_ap1, List.getElem?_cons_zero, List.getElem?_cons_succ, nk10, nk11, if_true, eq_self, b134_17, nF]
    cases eF : dF (en st.2.1 e).2 v with
    | none =>
      rw [agl_n (Or.inl eF)] at hL
      rw [if_pos rfl, b134_37, if_pos rfl, b134_79, nI_add]
      exact ih (v + 1) pre (by omega) (by omega) hL h f g r i7 i8 i9 hk
    | some b =>
      obtain ⟨h1, e1, r1, k1⟩ := m130 (X := X) r he (show v < 1000 by omega)
      have j7 := k1.ia i7 (by omega) (by omega)
      have j8 := k1.ia i8 (by omega) (by omega)
      have j9 := k1.ia i9 (by omega) (by omega)
      rw [if_neg (by intro q; cases q), vO a, e1]
      simp only [sm_gI_s, sm_gR_s, sm_gJ_s, sm_cR_s, sm_al_s, sm_sw_s, sm_tl1, sm_tl0, sm_ap0, sm_ap1, List.getElem?_cons_zero, List.getElem?_cons_succ, nk10, nk11, if_true, eq_self, b134_37, nW]
      cases eW : dW (en st.2.1 e).1 st.2.1.2.1 v with
      | none =>
        rw [agl_n (Or.inr eW)] at hL
        rw [if_pos rfl, b134_79, nI_add]
        obtain ⟨h2, f2, g2, e2, x1, x2, x3, x4, x5, x6, x7⟩ := ih (v + 1) pre (by omega) (by omega) hL h1 f g r1 j7 j8 j9 hk
        exact ⟨h2, f2, g2, e2, x1, x2, x3, x4, x5, x6, k1.fr.s x7⟩
      | some y =>
        rw [agl_s eW eF] at hL
        obtain ⟨⟨q1, a1⟩, -⟩ := id r1
        have hm := pN_mid (pre := pre) (t := agl (en st.2.1 e).1 (en st.2.1 e).2 st.2.1.2.1 d (v + 1)) (v := v) (y := y + b)
        rw [← hL] at hm
        have ka : Fr h1 (sm_w h1 (M + 7) (.inl (.int, 6000, .inl (upd f (1000 * e + pre.length) (nI v))))) (M + 7) (M + 7 + 1) := Fr.w
        have ra : RepM (sm_w h1 (M + 7) (.inl (.int, 6000, .inl (upd f (1000 * e + pre.length) (nI v))))) M st := r1.w j7 (by omega)
        have l8 := j8.fr ka (by omega)
        have kb : Fr (sm_w h1 (M + 7) (.inl (.int, 6000, .inl (upd f (1000 * e + pre.length) (nI v))))) (sm_w (sm_w h1 (M + 7) (.inl (.int, 6000, .inl (upd f (1000 * e + pre.length) (nI v))))) (M + 8) (.inl (.int, 6000, .inl (upd g (1000 * e + pre.length) (nI (b + y)))))) (M + 8) (M + 8 + 1) := Fr.w
        have rb : RepM (sm_w (sm_w h1 (M + 7) (.inl (.int, 6000, .inl (upd f (1000 * e + pre.length) (nI v))))) (M + 8) (.inl (.int, 6000, .inl (upd g (1000 * e + pre.length) (nI (b + y)))))) M st := ra.w l8 (by omega)
        obtain ⟨⟨q2, a2⟩, -⟩ := id ra
        have m7 : IA (sm_w (sm_w h1 (M + 7) (.inl (.int, 6000, .inl (upd f (1000 * e + pre.length) (nI v))))) (M + 8) (.inl (.int, 6000, .inl (upd g (1000 * e + pre.length) (nI (b + y)))))) (M + 7) 6000 (upd f (1000 * e + pre.length) (nI v)) := (w_ne (by omega)).trans w_eq
        obtain ⟨h2, f2, g2, e2, x1, x2, x3, x4, x5, x6, x7⟩ := ih (v + 1) (pre ++ [(v, y + b)]) (by omega) (by rw [List.length_append]; show pre.length + 1 ≤ v + 1; omega) (by rw [List.append_assoc]; exact hL) _ _ _ rb m7 w_eq ((j9.fr ka (by omega)).fr kb (by omega)) (fun k hk2 => by
          rw [List.length_append] at hk2
          have hk2 : k < pre.length + 1 := hk2
          by_cases e0 : k = pre.length
          · rw [e0, pk_us, pk_us, hm.1, hm.2, Nat.add_comm b y]
            exact ⟨rfl, rfl⟩
          · rw [pk_un (by omega), pk_un (by omega)]
            exact hk k (by omega))
        rw [List.length_append] at e2
        have e2' : sm_E PP X 134 4 [(0, .ref M), (1, .int (nI e)), (2, .int (nI (pre.length + 1))), (3, .int (nI (v + 1)))] [] (sm_w (sm_w h1 (M + 7) (.inl (.int, 6000, .inl (upd f (1000 * e + pre.length) (nI v))))) (M + 8) (.inl (.int, 6000, .inl (upd g (1000 * e + pre.length) (nI (b + y)))))) = some (none, h2) := e2
        refine ⟨h2, f2, g2, ?_, x1, x2, x3, x4, x5, fun x hx => ?_, (k1.fr.s ((ka.mono (by omega) (by omega)).s (kb.mono (by omega) (by omega)))).s x7⟩
        · rw [if_neg (by intro q; cases q)]
          simp only [fO a1, sm_gI_s, sm_gR_s, sm_gJ_s, sm_cR_s, sm_al_s, sm_sw_s, sm_tl1, sm_tl0, sm_ap0, sm_ap1, List.getElem?_cons_zero, List.getElem?_cons_succ, nk10, nk11, if_true, eq_self, oIs, pk_mul, nI_add]
          rw [stO j7 (show 1000 * e + pre.length < 6000 by omega) (by omega)]
          simp only [fO a2, sm_gI_s, sm_gR_s, sm_gJ_s, sm_cR_s, sm_al_s, sm_sw_s, sm_tl1, sm_tl0, sm_ap0, sm_ap1, List.getElem?_cons_zero, List.getElem?_cons_succ, nk10, nk11, if_true, eq_self]
          rw [stO l8 (show 1000 * e + pre.length < 6000 by omega) (by omega), b134_79, nI_add]
          exact e2'
        · obtain ⟨y1, y2⟩ := x6 x hx
          rw [pk_un (by omega)] at y1
          rw [pk_un (by omega)] at y2
          exact ⟨y1, y2⟩
/-- findAgreeing -/
theorem m134 {X : smX} {h : smH} {M e : Nat} {st : St} {E : Nat → Bool} (r : RepM h M st) (ag : AgM h M st.2.1 E) (he : e < st.2.1.1.length) : ∃ h', sm_C PP X 134 [.ref M, .int (nI e)] h = some (none, h') ∧ RepM h' M st ∧ AgM h' M st.2.1 (uP E e true) ∧ Fr h h' M (M + 16) := by
  obtain ⟨f, g, c, i7, i8, i9, hE⟩ := ag
  obtain ⟨-, -, ⟨f0, i0, c2⟩, -⟩ := id r
  have h6 := c2.2.2.2.1.1
  obtain ⟨h2, f2, g2, e2, x1, x2, x3, x4, x5, x6, x7⟩ := m134_loop (X := X) he h6 1000 0 [] (by omega) (Nat.zero_le _) rfl h f g r i7 i8 i9 (fun k hk => absurd hk (Nat.not_lt_zero k))
  refine ⟨h2, by rw [c134, b134_0]; exact e2, x1, ⟨f2, g2, _, x2, x3, x4, fun j hj hq => ?_⟩, x7⟩
  by_cases e0 : j = e
  · rw [e0, pk_us]
    exact ⟨rfl, x5⟩
  · rw [uP_ne e0] at hq
    rw [pk_un e0]
    obtain ⟨y1, y2⟩ := hE j hj hq
    have hl : (agE st.2.1 j).1.length ≤ 1000 := agl_len 1000 0
    refine ⟨y1, fun k hk => ?_⟩
    obtain ⟨z1, z2⟩ := x6 (1000 * j + k) (by omega)
    rw [z1, z2]
    exact y2 k hk
