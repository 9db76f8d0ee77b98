/-! sure of the reference -/
theorem rby_hi {l : List (Nat × Nat)} {R : Nat → Bool} {x : Nat} : ∀ r k : Nat, (∀ j, k ≤ j → j < k + r → x < pN l j) → rby l R x r k = false := by
  intro r
  induction r with
  | zero => intro k h; rfl
  | succ r ih =>
    intro k h
    have := h k (by omega) (by omega)
    unfold rby
    rw [if_neg (by omega)]
    exact ih (k + 1) (fun j h1 h2 => h j (by omega) (by omega))
theorem m148_in {X : smX} {h : smH} {M d0 l0 q0 e x : Nat} {s : Sh} {f g c p : Nat → Int32} {R : Nat → Bool} (a : MObj h M d0 l0 q0) (ok : agOk s) (h6 : s.1.length ≤ 6) (fn : FnM h M s f g c) (i13 : BA h (M + 13) 5995 p) (hp : ∀ y, y < 5995 → p y = bI (R y)) (he : e < s.1.length) (hx : x < 5995) : ∀ (d k : Nat) (b : Bool), k + d = (agE s e).1.length → sm_E PP X 148 21 [(0, .ref M), (1, .int (nI e)), (2, .int (nI (1000 * e))), (3, .int (nI x)), (4, .int (bI b)), (5, .int (nI (1000 * e + k)))] [] h = sm_E PP X 148 72 [(0, .ref M), (1, .int (nI e)), (2, .int (nI (1000 * e))), (3, .int (nI x)), (4, .int (bI (b || rby (agE s e).1 R x d k)))] [] h := by
  intro d
  have hl := ag_le (s := s) (e := e)
  induction d with
  | zero =>
    intro k b hk
    rw [b148_21]
    simp only [fO a, sm_gI_s, sm_gR_s, sm_gJ_s, sm_cR_s, sm_al_s, sm_sw_s, sm_tl1, sm_tl0, sm_ap0, sm_ap1, List.getElem?_cons_zero, List.getElem?_cons_succ, nk10, nk11, if_true, eq_self, fn.l9 he h6, nI_add]
    rw [if_pos (nI_le (by omega) (by omega))]
    unfold rby
    rw [Bool.or_false]
  | succ d ih =>
    intro k b hk
    have hk2 : k < (agE s e).1.length := by omega
    have hbd := ok e he k hk2
    rw [b148_21]
    simp only [fO a, sm_gI_s, sm_gR_s, sm_gJ_s, sm_cR_s, sm_al_s, sm_sw_s, sm_tl1, sm_tl0, sm_ap0, sm_ap1, List.getElem?_cons_zero, List.getElem?_cons_succ, nk10, nk11, if_true, eq_self, fn.l9 he h6, nI_add, fn.l7 he h6 hk2]
    rw [if_neg (nI_ge (by omega) (by omega))]
    by_cases h1 : x < pN (agE s e).1 k
    · rw [if_pos (nI_lt h1 (by omega) : nI x < nI (pN (agE s e).1 k)), rby_hi (d + 1) k (fun j j1 j2 => by
        by_cases e0 : j = k
        · rw [e0]; exact h1
        · have := ag_up (s := s) (e := e) (i := k) (j := j) (by omega) (by omega)
          omega), Bool.or_false]
    · have h2 : pN (agE s e).1 k ≤ x := by omega
      rw [if_neg (nI_nlt (by omega) (by omega) : ¬ nI x < nI (pN (agE s e).1 k))]
      cases b with
      | true =>
        rw [if_neg (show ¬ bI true = 0 by decide)]
        rfl
      | false =>
        rw [if_pos (show bI false = 0 from rfl), pk_sub h2, aO i13, ldO (by omega) (by omega), hp _ (by omega), Nat.add_assoc]
        rw [ih (k + 1) _ (by omega)]
        conv => rhs; unfold rby
        cases eR : R (x - pN (agE s e).1 k) with
        | true => rw [if_pos ⟨h2, rfl⟩]; rfl
        | false => rw [if_neg (fun q => by cases q.2)]
theorem m148_sums {X : smX} {M d0 l0 q0 e : Nat} {s : Sh} {f g c p : Nat → Int32} {R : Nat → Bool} (ok : agOk s) (h6 : s.1.length ≤ 6) (hp : ∀ y, y < 5995 → p y = bI (R y)) (he : e < s.1.length) : ∀ (d x : Nat), x + d = 5995 → ∀ (h : smH) (q : Nat → Int32), MObj h M d0 l0 q0 → FnM h M s f g c → BA h (M + 13) 5995 p → BA h (M + 14) 5995 q → (∀ y, y < x → q y = bI (rby (agE s e).1 R y (agE s e).1.length 0)) → ∃ h' q', sm_E PP X 148 8 [(0, .ref M), (1, .int (nI e)), (2, .int (nI (1000 * e))), (3, .int (nI x))] [] h = sm_E PP X 148 88 [(0, .ref M), (3, .int (nI 0))] [] h' ∧ BA h' (M + 14) 5995 q' ∧ (∀ y, y < 5995 → q' y = bI (rby (agE s e).1 R y (agE s e).1.length 0)) ∧ Fr h h' (M + 14) (M + 14 + 1) := by
  intro d
  induction d with
  | zero =>
    intro x hx h q a fn i13 i14 hq
    refine ⟨h, q, ?_, i14, fun y hy => hq y (by omega), Fr.rf⟩
    rw [b148_8, if_pos (nI_le (by omega) (by omega))]
  | succ d ih =>
    intro x hx h q a fn i13 i14 hq
    have e1 := m148_in (X := X) a ok h6 fn i13 hp he (show x < 5995 by omega) (agE s e).1.length 0 false (by omega)
    have k1 : Fr h (sm_w h (M + 14) (.inl (.boolean, 5995, .inl (upd q x (bI (rby (agE s e).1 R x (agE s e).1.length 0)))))) (M + 14) (M + 14 + 1) := Fr.w
    obtain ⟨h2, q2, e2, j14, g2, k2⟩ := ih (x + 1) (by omega) _ (upd q x (bI (rby (agE s e).1 R x (agE s e).1.length 0))) (a.fr k1 (by omega)) (fn.fr k1 (by omega)) (BA.fr i13 k1 (by omega)) w_eq (fun y hy => by
      by_cases e0 : y = x
      · rw [e0, pk_us]
      · rw [pk_un e0]; exact hq y (by omega))
    refine ⟨h2, q2, ?_, j14, g2, k1.s k2⟩
    rw [Nat.add_zero, Bool.false_or] at e1
    rw [b148_8, if_neg (nI_ge (by omega) (by omega))]
    rw [show (nI 0 : Int32) = bI false from rfl, e1, b148_72]
    simp only [fO a, sm_gI_s, sm_gR_s, sm_gJ_s, sm_cR_s, sm_al_s, sm_sw_s, sm_tl1, sm_tl0, sm_ap0, sm_ap1, List.getElem?_cons_zero, List.getElem?_cons_succ, nk10, nk11, if_true, eq_self, nbb]
    rw [stO i14 (by omega) (by omega), nI_add]
    exact e2
theorem m148_copy {X : smX} {M d0 l0 q0 : Nat} {q : Nat → Int32} {Q : Nat → Bool} (hq : ∀ y, y < 5995 → q y = bI (Q y)) : ∀ (d x : Nat), x + d = 5995 → ∀ (h : smH) (p : Nat → Int32), MObj h M d0 l0 q0 → BA h (M + 13) 5995 p → BA h (M + 14) 5995 q → (∀ y, y < x → p y = bI (Q y)) → ∃ h' p', sm_E PP X 148 88 [(0, .ref M), (3, .int (nI x))] [] h = some (none, h') ∧ BA h' (M + 13) 5995 p' ∧ (∀ y, y < 5995 → p' y = bI (Q y)) ∧ Fr h h' (M + 13) (M + 13 + 1) := by
  intro d
  induction d with
  | zero =>
    intro x hx h p a i13 i14 hp
    refine ⟨h, p, ?_, i13, fun y hy => hp y (by omega), Fr.rf⟩
    rw [b148_88, if_pos (nI_le (by omega) (by omega))]
  | succ d ih =>
    intro x hx h p a i13 i14 hp
    have k1 : Fr h (sm_w h (M + 13) (.inl (.boolean, 5995, .inl (upd p x (bI (Q x)))))) (M + 13) (M + 13 + 1) := Fr.w
    obtain ⟨h2, p2, e2, j13, g2, k2⟩ := ih (x + 1) (by omega) _ (upd p x (bI (Q x))) (a.fr k1 (by omega)) w_eq (BA.fr i14 k1 (by omega)) (fun y hy => by
      by_cases e0 : y = x
      · rw [e0, pk_us]
      · rw [pk_un e0]; exact hp y (by omega))
    refine ⟨h2, p2, ?_, j13, g2, k1.s k2⟩
    rw [b148_88, if_neg (nI_ge (by omega) (by omega))]
    simp only [fO a, sm_gI_s, sm_gR_s, sm_gJ_s, sm_cR_s, sm_al_s, sm_sw_s, sm_tl1, sm_tl0, sm_ap0, sm_ap1, List.getElem?_cons_zero, List.getElem?_cons_succ, nk10, nk11, if_true, eq_self]
    rw [aO i14, ldO (by omega) (by omega), hq x (by omega), nbb, stO i13 (by omega) (by omega), nI_add]
    exact e2
/-- addOther -/
theorem m148 {X : smX} {h : smH} {M e : Nat} {st : St} {f g c p : Nat → Int32} {R : Nat → Bool} (r : RepM h M st) (fn : FnM h M st.2.1 f g c) (i13 : BA h (M + 13) 5995 p) (hp : ∀ y, y < 5995 → p y = bI (R y)) (he : e < st.2.1.1.length) : ∃ h' p', sm_C PP X 148 [.ref M, .int (nI e)] h = some (none, h') ∧ RepM h' M st ∧ FnM h' M st.2.1 f g c ∧ BA h' (M + 13) 5995 p' ∧ (∀ y, y < 5995 → p' y = bI (rby (agE st.2.1 e).1 R y (agE st.2.1 e).1.length 0)) ∧ Fr h h' M (M + 16) := by
  obtain ⟨⟨q0, a⟩, -, -, -, -, -, -, -, -, -, -, -, -, ⟨q, i14⟩, -⟩ := id r
  have h6 := r.h6
  obtain ⟨h1, q1, e1, j14, g1, k1⟩ := m148_sums (X := X) r.ok h6 hp he 5995 0 (by omega) h q a fn i13 i14 (fun y hy => absurd hy (Nat.not_lt_zero y))
  have r1 := r.cell k1 i14 j14 (by omega)
  obtain ⟨h2, p2, e2, j13, g2, k2⟩ := m148_copy (X := X) g1 5995 0 (by omega) h1 p (a.fr k1 (by omega)) (BA.fr i13 k1 (by omega)) j14 (fun y hy => absurd hy (Nat.not_lt_zero y))
  refine ⟨h2, p2, ?_, r1.cell k2 (BA.fr i13 k1 (by omega)) j13 (by omega), (fn.fr k1 (by omega)).fr k2 (by omega), j13, g2, (k1.mono (by omega) (by omega)).s (k2.mono (by omega) (by omega))⟩
  rw [c148, b148_0, pk_mul, e1, e2]
theorem m149_ini {X : smX} {M d0 l0 q0 : Nat} {e : Int32} : ∀ (d x : Nat), x + d = 5995 → ∀ (h : smH) (p : Nat → Int32), MObj h M d0 l0 q0 → BA h (M + 13) 5995 p → (∀ y, y < x → p y = bI (decide (y = 0))) → ∃ h' p', sm_E PP X 149 2 [(0, .ref M), (1, .int e), (2, .int (nI x))] [] h = sm_E PP X 149 32 [(0, .ref M), (1, .int e), (2, .int (nI 0))] [] h' ∧ BA h' (M + 13) 5995 p' ∧ (∀ y, y < 5995 → p' y = bI (decide (y = 0))) ∧ Fr h h' (M + 13) (M + 13 + 1) := by
  intro d
  induction d with
  | zero =>
    intro x hx h p a i13 hp
    refine ⟨h, p, ?_, i13, fun y hy => hp y (by omega), Fr.rf⟩
    rw [b149_2, if_pos (nI_le (by omega) (by omega))]
  | succ d ih =>
    intro x hx h p a i13 hp
    have k1 : Fr h (sm_w h (M + 13) (.inl (.boolean, 5995, .inl (upd p x (bI (decide (x = 0))))))) (M + 13) (M + 13 + 1) := Fr.w
    obtain ⟨h2, p2, e2, j13, g2, k2⟩ := ih (x + 1) (by omega) _ (upd p x (bI (decide (x = 0)))) (a.fr k1 (by omega)) w_eq (fun y hy => by
      by_cases e0 : y = x
      · rw [e0, pk_us]
      · rw [pk_un e0]; exact hp y (by omega))
    refine ⟨h2, p2, ?_, j13, g2, k1.s k2⟩
    rw [b149_2, if_neg (nI_ge (by omega) (by omega))]
    simp only [fO a, sm_gI_s, sm_gR_s, sm_gJ_s, sm_cR_s, sm_al_s, sm_sw_s, sm_tl1, sm_tl0, sm_ap0, sm_ap1, List.getElem?_cons_zero, List.getElem?_cons_succ, nk10, nk11, if_true, eq_self, b149_23]
    by_cases h0 : x = 0
    · rw [decide_eq_true h0] at e2
      rw [if_pos (show nI x = 0 by rw [h0]; rfl), show vp_nar .boolean (nI 1) = bI true from nbb true, stO i13 (by omega) (by omega), nI_add]
      exact e2
    · rw [decide_eq_false h0] at e2
      rw [if_neg (nI_ne0 (by omega) (by omega)), show vp_nar .boolean (nI 0) = bI false from nbb false, stO i13 (by omega) (by omega), nI_add]
      exact e2
theorem m149_loop {X : smX} {M e : Nat} {st : St} {f g c : Nat → Int32} (he : e < st.2.1.1.length) : ∀ (d i : Nat), i + d = st.2.1.1.length → ∀ (h : smH) (p : Nat → Int32) (R : Nat → Bool), RepM h M st → FnM h M st.2.1 f g c → BA h (M + 13) 5995 p → (∀ y, y < 5995 → p y = bI (R y)) → ∃ h' p', sm_E PP X 149 32 [(0, .ref M), (1, .int (nI e)), (2, .int (nI i))] [] h = some (none, h') ∧ RepM h' M st ∧ FnM h' M st.2.1 f g c ∧ BA h' (M + 13) 5995 p' ∧ (∀ y, y < 5995 → p' y = bI (rcs st.2.1 e d i R y)) ∧ Fr h h' M (M + 16) := by
  intro d
  induction d with
  | zero =>
    intro i hi h p R r fn i13 hp
    obtain ⟨⟨q0, a⟩, -, rn, -⟩ := id r
    have h6 := r.h6
    refine ⟨h, p, ?_, r, fn, i13, hp, Fr.rf⟩
    rw [b149_32]
    simp only [fO a, sm_gI_s, sm_gR_s, sm_gJ_s, sm_cR_s, sm_al_s, sm_sw_s, sm_tl1, sm_tl0, sm_ap0, sm_ap1, List.getElem?_cons_zero, List.getElem?_cons_succ, nk10, nk11, if_true, eq_self, rn.l0]
    rw [if_pos (nI_le (by omega) (by omega))]
  | succ d ih =>
    intro i hi h p R r fn i13 hp
    obtain ⟨⟨q0, a⟩, -, rn, -⟩ := id r
    have h6 := r.h6
    rw [b149_32]
    simp only [fO a, sm_gI_s, sm_gR_s, sm_gJ_s, sm_cR_s, sm_al_s, sm_sw_s, sm_tl1, sm_tl0, sm_ap0, sm_ap1, List.getElem?_cons_zero, List.getElem?_cons_succ, nk10, nk11, if_true, eq_self, rn.l0]
    rw [if_neg (nI_ge (by omega) (by omega))]
    unfold rcs
    by_cases h0 : i = e
    · rw [if_pos (by rw [h0]), if_pos h0, b149_52, nI_add]
      exact ih (i + 1) (by omega) h p R r fn i13 hp
    · obtain ⟨h1, p1, e1, r1, fn1, j13, g1, k1⟩ := m148 (X := X) r fn i13 hp (show i < st.2.1.1.length by omega)
      obtain ⟨h2, p2, e2, r2, fn2, l13, g2, k2⟩ := ih (i + 1) (by omega) h1 p1 _ r1 fn1 j13 g1
      rw [if_neg (fun q => h0 ((nI_eq (by omega) (by omega)).mp q)), if_neg h0, vO a, e1]
      simp only [sm_gI_s, sm_gR_s, sm_gJ_s, sm_cR_s, sm_al_s, sm_sw_s, sm_tl1, sm_tl0, sm_ap0, sm_ap1, List.getElem?_cons_zero, List.getElem?_cons_succ, nk10, nk11, if_true, eq_self, b149_52, nI_add]
      exact ⟨h2, p2, e2, r2, fn2, l13, g2, k1.s k2⟩
/-- findOthers -/
theorem m149 {X : smX} {h : smH} {M e : Nat} {st : St} {f g c : Nat → Int32} (r : RepM h M st) (fn : FnM h M st.2.1 f g c) (he : e < st.2.1.1.length) : ∃ h' p', sm_C PP X 149 [.ref M, .int (nI e)] h = some (none, h') ∧ RepM h' M st ∧ FnM h' M st.2.1 f g c ∧ BA h' (M + 13) 5995 p' ∧ (∀ y, y < 5995 → p' y = bI (rcs st.2.1 e st.2.1.1.length 0 (fun x => decide (x = 0)) y)) ∧ Fr h h' M (M + 16) := by
  obtain ⟨⟨q0, a⟩, -, -, -, -, -, -, -, -, -, -, -, ⟨p, i13⟩, -⟩ := id r
  obtain ⟨h1, p1, e1, j13, g1, k1⟩ := m149_ini (X := X) (e := nI e) 5995 0 (by omega) h p a i13 (fun y hy => absurd hy (Nat.not_lt_zero y))
  obtain ⟨h2, p2, e2, r2, fn2, l13, g2, k2⟩ := m149_loop (X := X) he st.2.1.1.length 0 (by omega) h1 p1 (fun x => decide (x = 0)) (r.cell k1 i13 j13 (by omega)) (fn.fr k1 (by omega)) j13 g1
  refine ⟨h2, p2, ?_, r2, fn2, l13, g2, (k1.mono (by omega) (by omega)).s k2⟩
  rw [c149, b149_0, e1, e2]
theorem rby_ff {l : List (Nat × Nat)} {R : Nat → Bool} {x : Nat} (hR : ∀ y, R y = false) : ∀ r k : Nat, rby l R x r k = false := by
  intro r
  induction r with
  | zero => intro k; rfl
  | succ r ih =>
    intro k
    unfold rby
    rw [if_neg (fun q => by rw [hR] at q; cases q.2)]
    exact ih (k + 1)
theorem rcs_ff {s : Sh} {e : Nat} : ∀ (r i : Nat) (R : Nat → Bool), (∀ y, R y = false) → ∀ x, rcs s e r i R x = false := by
  intro r
  induction r with
  | zero => intro i R hR x; exact hR x
  | succ r ih =>
    intro i R hR x
    unfold rcs
    split
    · exact ih (i + 1) R hR x
    · exact ih (i + 1) _ (fun y => rby_ff hR _ _) x
theorem rcs_alt {s : Sh} {e j : Nat} (hj : (agE s j).1.length = 0) (hne : j ≠ e) : ∀ (r i : Nat) (R : Nat → Bool), i ≤ j → j < i + r → ∀ x, rcs s e r i R x = false := by
  intro r
  induction r with
  | zero => intro i R h1 h2; omega
  | succ r ih =>
    intro i R h1 h2 x
    unfold rcs
    by_cases h0 : i = e
    · rw [if_pos h0]
      exact ih (i + 1) R (by omega) (by omega) x
    · rw [if_neg h0]
      by_cases h3 : i = j
      · refine rcs_ff r (i + 1) _ (fun y => ?_) x
        rw [h3, hj]
        rfl
      · exact ih (i + 1) _ (by omega) (by omega) x
theorem suL_ff {l : List (Nat × Nat)} {R : Nat → Bool} {t : Nat} (hR : ∀ y, R y = false) : ∀ (r k : Nat) (o : Option Nat), suL l R t r k o = o := by
  intro r
  induction r with
  | zero => intro k o; rfl
  | succ r ih =>
    intro k o
    unfold suL
    rw [if_neg (fun q => by rw [hR] at q; cases q.2.2)]
    exact ih (k + 1) o
theorem m150_loop {X : smX} {h : smH} {M d0 l0 q0 e t : Nat} {s : Sh} {f g c p : Nat → Int32} {R : Nat → Bool} (a : MObj h M d0 l0 q0) (ok : agOk s) (h6 : s.1.length ≤ 6) (fn : FnM h M s f g c) (i13 : BA h (M + 13) 5995 p) (hp : ∀ y, y < 5995 → p y = bI (R y)) (he : e < s.1.length) (ht : t ≤ 9999) : ∀ (d k m : Nat) (o : Option Nat) (fd : Int32), k + d = (agE s e).1.length → m ≤ k → (m = 0 → o = none) → (m = 1 → ∃ v, o = some v ∧ fd = nI v) → sm_E PP X 150 77 [(0, .ref M), (1, .int (nI e)), (2, .int (nI (1000 * e))), (3, .int (nI t)), (4, .int (nI m)), (5, .int fd), (6, .int (nI (1000 * e + k)))] [] h = some (some (.int (oI (if 2 ≤ m then none else suL (agE s e).1 R t d k o))), h) := by
  intro d
  have hl := ag_le (s := s) (e := e)
  induction d with
  | zero =>
    intro k m o fd hk hm h0 h1
    rw [b150_77]
    simp only [fO a, sm_gI_s, sm_gR_s, sm_gJ_s, sm_cR_s, sm_al_s, sm_sw_s, sm_tl1, sm_tl0, sm_ap0, sm_ap1, List.getElem?_cons_zero, List.getElem?_cons_succ, nk10, nk11, if_true, eq_self, fn.l9 he h6, nI_add, b150_154]
    rw [if_pos (nI_le (by omega) (by omega))]
    unfold suL
    by_cases m1 : m = 1
    · obtain ⟨v, v1, v2⟩ := h1 m1
      rw [if_pos (by rw [m1]), if_neg (by omega), v1, v2]
      rfl
    · rw [if_neg (fun q => m1 ((nI_eq (by omega) (by omega)).mp q))]
      by_cases m2 : 2 ≤ m
      · rw [if_pos m2]; rfl
      · rw [if_neg m2, h0 (by omega)]; rfl
  | succ d ih =>
    intro k m o fd hk hm h0 h1
    have hk2 : k < (agE s e).1.length := by omega
    have hbd := ok e he k hk2
    have hsub := pk_sub_toInt (a := t) (b := pN (agE s e).1 k) (by omega) (by omega)
    rw [b150_77]
    simp only [fO a, sm_gI_s, sm_gR_s, sm_gJ_s, sm_cR_s, sm_al_s, sm_sw_s, sm_tl1, sm_tl0, sm_ap0, sm_ap1, List.getElem?_cons_zero, List.getElem?_cons_succ, nk10, nk11, if_true, eq_self, fn.l9 he h6, nI_add, fn.l7 he h6 hk2]
    rw [if_neg (nI_ge (by omega) (by omega)), m107]
    simp only [sm_gI_s, sm_gR_s, sm_gJ_s, sm_cR_s, sm_al_s, sm_sw_s, sm_tl1, sm_tl0, sm_ap0, sm_ap1, List.getElem?_cons_zero, List.getElem?_cons_succ, nk10, nk11, if_true, eq_self, b150_110, bI_0]
    rw [hsub, nI_toInt (show 0 < 2 ^ 31 by omega), nI_toInt (show 5994 < 2 ^ 31 by omega)]
    have no : (¬ (pN (agE s e).1 k ≤ t ∧ t - pN (agE s e).1 k ≤ 5994 ∧ R (t - pN (agE s e).1 k) = true)) → sm_E PP X 150 135 [(0, .ref M), (1, .int (nI e)), (2, .int (nI (1000 * e))), (3, .int (nI t)), (4, .int (nI m)), (5, .int fd), (6, .int (nI (1000 * e + k)))] [] h = some (some (.int (oI (if 2 ≤ m then none else suL (agE s e).1 R t (d + 1) k o))), h) := fun hn => by
      rw [b150_135, nI_add, Nat.add_assoc, ih (k + 1) m o fd (by omega) (by omega) h0 h1]
      conv => rhs; unfold suL
      rw [if_neg hn]
    by_cases h2 : pN (agE s e).1 k ≤ t ∧ t - pN (agE s e).1 k ≤ 5994
    · rw [decide_eq_true (by omega), if_neg (show ¬ (true = false) by decide), pk_sub h2.1]
      simp only [fO a, sm_gI_s, sm_gR_s, sm_gJ_s, sm_cR_s, sm_al_s, sm_sw_s, sm_tl1, sm_tl0, sm_ap0, sm_ap1, List.getElem?_cons_zero, List.getElem?_cons_succ, nk10, nk11, if_true, eq_self]
      rw [aO i13, ldO (by omega) (by omega), hp _ (by omega)]
      cases eR : R (t - pN (agE s e).1 k) with
      | false =>
        rw [if_pos (show bI false = 0 from rfl)]
        exact no (fun q => by rw [eR] at q; cases q.2.2)
      | true =>
        rw [if_neg (show ¬ bI true = 0 by decide), fn.l7 he h6 hk2, b150_135, nI_add, nI_add, Nat.add_assoc, ih (k + 1) (m + 1) (some (pN (agE s e).1 k)) (nI (pN (agE s e).1 k)) (by omega) (by omega) (fun q => by omega) (fun _ => ⟨_, rfl, rfl⟩)]
        conv => rhs; unfold suL
        rw [if_pos (show pN (agE s e).1 k ≤ t ∧ t - pN (agE s e).1 k ≤ 5994 ∧ R (t - pN (agE s e).1 k) = true from ⟨h2.1, h2.2, eR⟩)]
        by_cases m0 : m = 0
        · rw [h0 m0, if_neg (show ¬ 2 ≤ m + 1 by omega), if_neg (show ¬ 2 ≤ m by omega)]
        · rw [if_pos (show 2 ≤ m + 1 by omega)]
          by_cases m1 : m = 1
          · obtain ⟨v, v1, v2⟩ := h1 m1
            rw [v1, if_neg (show ¬ 2 ≤ m by omega)]
          · rw [if_pos (show 2 ≤ m by omega)]
    · rw [decide_eq_false (by omega), if_pos rfl]
      exact no (fun q => h2 ⟨q.1, q.2.1⟩)
theorem m150 {X : smX} {h : smH} {M : Nat} {st : St} (r : RepM h M st) (x : Int32) : ∃ h', sm_C PP X 150 [.ref M, .int x] h = some (some (.int (qSure st x)), h') ∧ RepM h' M st ∧ Fr h h' M (M + 16) := by
  obtain ⟨⟨q0, a⟩, -⟩ := id r
  have h6 := r.h6
  unfold qSure
  rw [c150, b150_0, vO a, m116 r]
  simp only [sm_gI_s, sm_gR_s, sm_gJ_s, sm_cR_s, sm_al_s, sm_sw_s, sm_tl1, sm_tl0, sm_ap0, sm_ap1, List.getElem?_cons_zero, List.getElem?_cons_succ, nk10, nk11, if_true, eq_self, b150_5, bI_0]
  rcases e_cs st.2.1.1.length x with ⟨e, he, h31, rfl⟩ | hv
  · rw [vN_t he h31, if_neg (show ¬ (true = false) by decide), if_pos rfl, nTN h31, vO a]
    obtain ⟨h1, e1, r1, ag1, k1⟩ := m140 (X := X) r
    obtain ⟨f, g, c, fn⟩ := ag1.fn
    obtain ⟨⟨q1, a1⟩, -, rn1, -⟩ := id r1
    have hl := ag_le (s := st.2.1) (e := e)
    rw [e1]
    simp only [sm_gI_s, sm_gR_s, sm_gJ_s, sm_cR_s, sm_al_s, sm_sw_s, sm_tl1, sm_tl0, sm_ap0, sm_ap1, List.getElem?_cons_zero, List.getElem?_cons_succ, nk10, nk11, if_true, eq_self, b150_14, fO a1, rn1.l2, pk_mul]
    unfold sur
    cases eT : st.2.1.2.2 with
    | none =>
      rw [if_pos (show oI none = -nI 9 from rfl), vO a1, m147 r1 fn]
      simp only [sm_gI_s, sm_gR_s, sm_gJ_s, sm_cR_s, sm_al_s, sm_sw_s, sm_tl1, sm_tl0, sm_ap0, sm_ap1, List.getElem?_cons_zero, List.getElem?_cons_succ, nk10, nk11, if_true, eq_self, b150_37, bI_0, b150_50, b150_61]
      refine ⟨h1, ?_, r1, k1⟩
      by_cases hz : alt st.2.1 st.2.1.1.length 0 0 = 0
      · rw [if_pos (decide_eq_false (fun q => q hz)), if_pos hz]
        simp only [fO a1, sm_gI_s, sm_gR_s, sm_gJ_s, sm_cR_s, sm_al_s, sm_sw_s, sm_tl1, sm_tl0, sm_ap0, sm_ap1, List.getElem?_cons_zero, List.getElem?_cons_succ, nk10, nk11, if_true, eq_self, fn.l9 he h6]
        by_cases h1' : (agE st.2.1 e).1.length = 1
        · have : ∀ κ : Int32 → smR, sm_ld (sm_ar PP X h1 (.ref (M + 7))) .int (nI (1000 * e)) κ = κ (nI (pN (agE st.2.1 e).1 0)) := fun κ => fn.l7 he h6 (k := 0) (by omega) κ
          rw [if_pos (by rw [h1']), if_pos h1', this]
          rfl
        · rw [if_neg (fun q => h1' ((nI_eq (by omega) (by omega)).mp q)), if_neg h1']
          rfl
      · rw [if_neg (by rw [decide_eq_true hz]; decide), if_neg hz]
        rfl
    | some t =>
      have ht9 : t ≤ 9999 := rn1.choose_spec.2.2.2.2.1.2.2 t eT
      obtain ⟨h2, p, e2, r2, fn2, i13, g2, k2⟩ := m149 (X := X) r1 fn he
      obtain ⟨⟨q2, a2⟩, -⟩ := id r2
      have e3 := m150_loop (X := X) a2 r2.ok h6 fn2 i13 g2 he ht9 (agE st.2.1 e).1.length 0 0 none (-nI 9) (by omega) (Nat.le_refl _) (fun _ => rfl) (fun q => by omega)
      rw [Nat.add_zero, if_neg (by omega)] at e3
      rw [if_neg (show ¬ oI (some t) = -nI 9 from neg9_ne (by omega)), vO a1, e2]
      simp only [sm_gI_s, sm_gR_s, sm_gJ_s, sm_cR_s, sm_al_s, sm_sw_s, sm_tl1, sm_tl0, sm_ap0, sm_ap1, List.getElem?_cons_zero, List.getElem?_cons_succ, nk10, nk11, if_true, eq_self, b150_67]
      rw [oIs, e3]
      refine ⟨h2, ?_, r2, k1.s k2⟩
      by_cases hz : alt st.2.1 st.2.1.1.length 0 0 = 0
      · rw [if_pos hz]
      · rw [if_neg hz]
        rw [alt_iff, Classical.not_not] at hz
        obtain ⟨j, j1, j2⟩ := hz
        by_cases e0 : j = e
        · rw [e0] at j2
          rw [j2]
          rfl
        · rw [suL_ff (rcs_alt j2 e0 _ _ _ (Nat.zero_le _) (by omega))]
  · rw [vN_f hv, if_pos rfl, if_neg (show ¬ (false = true) by decide)]
    exact ⟨h, rfl, r, Fr.rf⟩
