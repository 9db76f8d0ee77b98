/-! look of the reference -/
theorem dwS_ok {ws nd : List Nat} : ∀ (r p d o : Nat) (y : Nat × Nat), dwS ws nd r p d o = some y → ∀ j, p ≤ j → j < p + r → (nA ws j = 32 ↔ nA nd j = 32) := by
  intro r
  induction r with
  | zero => intro p d o y h j h1 h2; omega
  | succ r ih =>
    intro p d o y h j h1 h2
    unfold dwS at h
    split at h
    · rename_i hq
      by_cases e : j = p
      · rw [e]; exact hq
      · split at h
        · exact ih _ _ _ _ h j (by omega) (by omega)
        · split at h
          · exact ih _ _ _ _ h j (by omega) (by omega)
          · exact ih _ _ _ _ h j (by omega) (by omega)
    · cases h
theorem dW_ok {ws : List Nat} {sl n x : Nat} (h : dW ws sl n = some x) : ws.length = (spN n).length ∧ ∀ j, j < ws.length → (nA ws j = 32 ↔ nA (spN n) j = 32) := by
  unfold dW at h
  split at h
  · rename_i hl
    refine ⟨hl, fun j hj => ?_⟩
    cases e : dwS ws (spN n) ws.length 0 0 0 with
    | none => rw [e] at h; cases h
    | some y => exact dwS_ok _ _ _ _ _ e j (Nat.zero_le _) (by omega)
  · cases h
theorem agl_dw {ws fs : List Nat} {sl : Nat} : ∀ r n k : Nat, k < (agl ws fs sl r n).length → ∃ a, dW ws sl (pN (agl ws fs sl r n) k) = some a := by
  intro r
  induction r with
  | zero => intro n k h; exact absurd h (Nat.not_lt_zero k)
  | succ r ih =>
    intro n k h
    cases e2 : dF fs n with
    | none =>
      rw [agl_n (Or.inl e2)] at h ⊢
      exact ih (n + 1) k h
    | some b =>
      cases e1 : dW ws sl n with
      | none =>
        rw [agl_n (Or.inr e1)] at h ⊢
        exact ih (n + 1) k h
      | some a =>
        rw [agl_s e1 e2] at h ⊢
        cases k with
        | zero => exact ⟨a, e1⟩
        | succ k => exact ih (n + 1) k (by simpa using h)
/-- where WORDS has a ?, each AGREEING NUMBER has a letter -/
theorem ag_let {s : Sh} {e p k : Nat} (ok : agOk s) (he : e < s.1.length) (hp : p < (en s e).1.length) (h63 : nA (en s e).1 p = 63) (hk : k < (agE s e).1.length) : ∃ q, q < 26 ∧ p < (spN (pN (agE s e).1 k)).length ∧ nA (spN (pN (agE s e).1 k)) p = 97 + q ∧ lIx (pN (agE s e).1 k) p = some q := by
  have hb := ok e he k hk
  obtain ⟨a, ha⟩ := agl_dw 1000 0 k hk
  obtain ⟨h1, h2⟩ := dW_ok ha
  have h1 : (en s e).1.length = (spN (pN (agE s e).1 k)).length := h1
  have h3 : nA (en s e).1 p = 32 ↔ nA (spN (pN (agE s e).1 k)) p = 32 := h2 p hp
  have h4 := spN_let hb.1 (k := p) (by omega)
  refine ⟨nA (spN (pN (agE s e).1 k)) p - 97, by omega, by omega, by omega, ?_⟩
  unfold lIx
  rw [if_pos (by omega)]
/-- what the reference has found of one ENTRY -/
def Fn1 (h : smH) (M : Nat) (s : Sh) (e : Nat) (f g c : Nat → Int32) : Prop := IA h (M + 7) 6000 f ∧ IA h (M + 8) 6000 g ∧ IA h (M + 9) 6 c ∧ c e = nI (agE s e).1.length ∧ ∀ k, k < (agE s e).1.length → f (1000 * e + k) = nI (pN (agE s e).1 k) ∧ g (1000 * e + k) = nI (pD (agE s e).1 k)
theorem AgM.f1 {h : smH} {M e : Nat} {s E} (x : AgM h M s E) (he : e < s.1.length) (hE : E e = true) : ∃ f g c, Fn1 h M s e f g c := by
  obtain ⟨f, g, c, a1, a2, a3, a4⟩ := x
  exact ⟨f, g, c, a1, a2, a3, a4 e he hE⟩
theorem Fn1.fr {h h' : smH} {M lo hi e : Nat} {s f g c} (x : Fn1 h M s e f g c) (k : Fr h h' lo hi) (hd : M + 9 < lo ∨ hi ≤ M + 7) : Fn1 h' M s e f g c := ⟨x.1.fr k (by omega), x.2.1.fr k (by omega), x.2.2.1.fr k (by omega), x.2.2.2⟩
theorem Fn1.fm {h h' : smH} {M e : Nat} {s f g c} (x : Fn1 h M s e f g c) (k : Fm h h' M) : Fn1 h' M s e f g c := ⟨k.ia x.1 (by omega) (by omega), k.ia x.2.1 (by omega) (by omega), k.ia x.2.2.1 (by omega) (by omega), x.2.2.2⟩
theorem Fn1.l9 {h : smH} {M e : Nat} {s f g c} (x : Fn1 h M s e f g c) (he : e < s.1.length) (h6 : s.1.length ≤ 6) {X : smX} (κ : Int32 → smR) : sm_ld (sm_ar PP X h (.ref (M + 9))) .int (nI e) κ = κ (nI (agE s e).1.length) := by
  rw [aO x.2.2.1, ldO (by omega) (by omega), x.2.2.2.1]
theorem Fn1.l7 {h : smH} {M e k : Nat} {s f g c} (x : Fn1 h M s e f g c) (he : e < s.1.length) (h6 : s.1.length ≤ 6) (hk : k < (agE s e).1.length) {X : smX} (κ : Int32 → smR) : sm_ld (sm_ar PP X h (.ref (M + 7))) .int (nI (1000 * e + k)) κ = κ (nI (pN (agE s e).1 k)) := by
  have := ag_le (s := s) (e := e)
  rw [aO x.1, ldO (by omega) (by omega), (x.2.2.2.2 k hk).1]
theorem m151_ini {X : smX} {M d0 l0 q0 : Nat} {e p : Int32} {i : Nat} : ∀ (d x : Nat), x + d = 26 → ∀ (h : smH) (f : Nat → Int32), MObj h M d0 l0 q0 → IA h (M + 15) 26 f → (∀ y, y < x → f y = nI 0) → ∃ h' f', sm_E PP X 151 2 [(0, .ref M), (1, .int (nI i)), (2, .int p), (3, .int (nI x))] [] h = sm_E PP X 151 30 [(0, .ref M), (1, .int (nI i)), (2, .int p), (3, .int (nI 0)), (4, .int (nI (1000 * i)))] [] h' ∧ IA h' (M + 15) 26 f' ∧ (∀ y, y < 26 → f' y = nI 0) ∧ Fr h h' (M + 15) (M + 15 + 1) := by
  intro d
  induction d with
  | zero =>
    intro x hx h f a i15 hf
    refine ⟨h, f, ?_, i15, fun y hy => hf y (by omega), Fr.rf⟩
    rw [b151_2, if_pos (nI_le (by omega) (by omega)), pk_mul]
  | succ d ih =>
    intro x hx h f a i15 hf
    have k1 : Fr h (sm_w h (M + 15) (.inl (.int, 26, .inl (upd f x (nI 0))))) (M + 15) (M + 15 + 1) := Fr.w
    obtain ⟨h2, f2, e2, j15, g2, k2⟩ := ih (x + 1) (by omega) _ (upd f x (nI 0)) (a.fr k1 (by omega)) w_eq (fun y hy => by
      by_cases e0 : y = x
      · rw [e0, pk_us]
      · rw [pk_un e0]; exact hf y (by omega))
    refine ⟨h2, f2, ?_, j15, g2, k1.s k2⟩
    rw [b151_2, if_neg (nI_ge (by omega) (by omega))]
    simp only [fO a, sm_gI_s, sm_gR_s, sm_gJ_s, sm_cR_s, sm_al_s, sm_sw_s, sm_tl1, sm_tl0, sm_ap0, sm_ap1, List.getElem?_cons_zero, List.getElem?_cons_succ, nk10, nk11, if_true, eq_self]
    rw [stO i15 (by omega) (by omega), nI_add]
    exact e2
theorem m151_loop {X : smX} {M e p : Nat} {st : St} {f g c : Nat → Int32} (he : e < st.2.1.1.length) (hp : p < (en st.2.1 e).1.length) (h63 : nA (en st.2.1 e).1 p = 63) : ∀ (d k : Nat), k + d = (agE st.2.1 e).1.length → ∀ (h : smH) (hv : Nat → Int32) (n : Nat → Nat) (m : Nat), RepM h M st → Fn1 h M st.2.1 e f g c → IA h (M + 15) 26 hv → (∀ q, q < 26 → hv q = nI (n q) ∧ n q ≤ k) → m ≤ k → ∃ h', sm_E PP X 151 30 [(0, .ref M), (1, .int (nI e)), (2, .int (nI p)), (3, .int (nI m)), (4, .int (nI (1000 * e + k)))] [] h = some (some (.int (nI (mst (agE st.2.1 e).1 p d k n m))), h') ∧ RepM h' M st ∧ Fn1 h' M st.2.1 e f g c ∧ Fr h h' M (M + 16) := by
  intro d
  have hl := ag_le (s := st.2.1) (e := e)
  induction d with
  | zero =>
    intro k hk h hv n m r fn i15 hn hm
    obtain ⟨⟨q0, a⟩, -⟩ := id r
    have h6 := r.h6
    refine ⟨h, ?_, r, fn, Fr.rf⟩
    rw [b151_30]
    simp only [fO a, sm_gI_s, sm_gR_s, sm_gJ_s, sm_cR_s, sm_al_s, sm_sw_s, sm_tl1, sm_tl0, sm_ap0, sm_ap1, List.getElem?_cons_zero, List.getElem?_cons_succ, nk10, nk11, if_true, eq_self, fn.l9 he h6, pk_mul, nI_add]
    rw [if_pos (nI_le (by omega) (by omega))]
    rfl
  | succ d ih =>
    intro k hk h hv n m r fn i15 hn hm
    obtain ⟨⟨q0, a⟩, -, -, -, -, ⟨⟨g0, g1⟩, -⟩⟩ := id r
    have h6 := r.h6
    have hk2 : k < (agE st.2.1 e).1.length := by omega
    have hbd := r.ok e he k hk2
    have h31 := spN_len hbd.1
    obtain ⟨q, q1, q2, q3, q4⟩ := ag_let r.ok he hp h63 hk2
    obtain ⟨hn1, hn2⟩ := hn q q1
    obtain ⟨h1, e1, s1, k1⟩ := m129 (X := X) a g1 hbd.1
    have r1 := r.sp k1 s1
    have fn1 := fn.fm k1
    have j15 := k1.ia i15 (by omega) (by omega)
    obtain ⟨b1, g2, b2, b3⟩ := id s1
    have k2 : Fr h1 (sm_w h1 (M + 15) (.inl (.int, 26, .inl (upd hv q (nI (n q + 1)))))) (M + 15) (M + 15 + 1) := Fr.w
    have b4 := b1.fr k2 (by omega)
    have mE : mst (agE st.2.1 e).1 p (d + 1) k n m = mst (agE st.2.1 e).1 p d (k + 1) (uP n q (n q + 1)) (if m < n q + 1 then n q + 1 else m) := by
      conv => lhs; unfold mst
      rw [q4]
    obtain ⟨h3, e3, r3, fn3, k3⟩ := ih (k + 1) (by omega) _ (upd hv q (nI (n q + 1))) (uP n q (n q + 1)) (if m < n q + 1 then n q + 1 else m) (r1.cell k2 j15 w_eq (by omega)) (fn1.fr k2 (by omega)) w_eq (fun y hy => by
      by_cases e0 : y = q
      · rw [e0, pk_us, uP_eq]; exact ⟨rfl, by omega⟩
      · rw [pk_un e0, uP_ne e0]; exact ⟨(hn y hy).1, by have := (hn y hy).2; omega⟩) (by split <;> omega)
    refine ⟨h3, ?_, r3, fn3, (k1.fr.s (k2.mono (by omega) (by omega))).s k3⟩
    rw [b151_30]
    simp only [fO a, sm_gI_s, sm_gR_s, sm_gJ_s, sm_cR_s, sm_al_s, sm_sw_s, sm_tl1, sm_tl0, sm_ap0, sm_ap1, List.getElem?_cons_zero, List.getElem?_cons_succ, nk10, nk11, if_true, eq_self, fn.l9 he h6, pk_mul, nI_add, fn.l7 he h6 hk2]
    rw [if_neg (nI_ge (by omega) (by omega)), vO a, e1]
    simp only [sm_gI_s, sm_gR_s, sm_gJ_s, sm_cR_s, sm_al_s, sm_sw_s, sm_tl1, sm_tl0, sm_ap0, sm_ap1, List.getElem?_cons_zero, List.getElem?_cons_succ, nk10, nk11, if_true, eq_self, b151_58, fO b1]
    rw [aO b2, ldO (show p < 40 by omega) (by omega), b3 p q2, q3, pk_sub (by omega), show 97 + q - 97 = q by omega, aO j15, ldO q1 (by omega), hn1, nI_add, stO j15 q1 (by omega)]
    simp only [fO b4, sm_gI_s, sm_gR_s, sm_gJ_s, sm_cR_s, sm_al_s, sm_sw_s, sm_tl1, sm_tl0, sm_ap0, sm_ap1, List.getElem?_cons_zero, List.getElem?_cons_succ, nk10, nk11, if_true, eq_self]
    rw [aO (w_eq : (sm_w h1 (M + 15) _).1 (M + 15) = _), ldO q1 (by omega), pk_us, mE]
    by_cases h5 : m < n q + 1
    · rw [if_pos h5] at e3 ⊢
      rw [if_neg (nI_ge h5 (by omega)), ldO q1 (by omega), pk_us, b151_102, nI_add]
      exact e3
    · rw [if_neg h5] at e3 ⊢
      rw [if_pos (nI_le (by omega) (by omega)), b151_102, nI_add]
      exact e3
/-- mostAt -/
theorem m151 {X : smX} {h : smH} {M e p : Nat} {st : St} {f g c : Nat → Int32} (r : RepM h M st) (fn : Fn1 h M st.2.1 e f g c) (he : e < st.2.1.1.length) (hp : p < (en st.2.1 e).1.length) (h63 : nA (en st.2.1 e).1 p = 63) : ∃ h', sm_C PP X 151 [.ref M, .int (nI e), .int (nI p)] h = some (some (.int (nI (mstN (agE st.2.1 e).1 p))), h') ∧ RepM h' M st ∧ Fn1 h' M st.2.1 e f g c ∧ Fr h h' M (M + 16) := by
  obtain ⟨⟨q0, a⟩, -, -, -, -, -, -, -, -, -, -, -, -, -, hv, i15⟩ := id r
  obtain ⟨h1, f1, e1, j15, g1, k1⟩ := m151_ini (X := X) (e := nI 0) (p := nI p) (i := e) 26 0 (by omega) h hv a i15 (fun y hy => absurd hy (Nat.not_lt_zero y))
  obtain ⟨h2, e2, r2, fn2, k2⟩ := m151_loop (X := X) he hp h63 (agE st.2.1 e).1.length 0 (by omega) h1 f1 (fun _ => 0) 0 (r.cell k1 i15 j15 (by omega)) (fn.fr k1 (by omega)) j15 (fun q hq => ⟨g1 q hq, Nat.le_refl _⟩) (Nat.le_refl _)
  refine ⟨h2, ?_, r2, fn2, (k1.mono (by omega) (by omega)).s k2⟩
  rw [c151, b151_0, e1]
  exact e2
theorem m152_loop {X : smX} {M e : Nat} {st : St} {f g c : Nat → Int32} (he : e < st.2.1.1.length) (h1L : 1 < (agE st.2.1 e).1.length) : ∀ (d p : Nat), p + d = (en st.2.1 e).1.length → ∀ (h : smH) (o : Option Nat) (fw ls : Nat), RepM h M st → Fn1 h M st.2.1 e f g c → (o = none → ls = 1001) → (∀ q, o = some q → ls = fw) → ls ≤ 1001 → ∃ h', sm_E PP X 152 32 [(0, .ref M), (1, .int (nI e)), (2, .int (nI (3 + 36 * e))), (3, .int (oI o)), (4, .int (nI ls)), (5, .int (nI p))] [] h = some (some (.int (oI (bpl (en st.2.1 e).1 (agE st.2.1 e).1 d p o fw))), h') ∧ RepM h' M st ∧ Fr h h' M (M + 16) := by
  intro d
  have hl := ag_le (s := st.2.1) (e := e)
  induction d with
  | zero =>
    intro p hp h o fw ls r fn h1 h2 h3
    obtain ⟨⟨q0, a⟩, -, ⟨f0, c1, c2⟩, -⟩ := id r
    have h6 := r.h6
    obtain ⟨c3, c4⟩ := c2.2.2.2.2 e he
    obtain ⟨p1, p2⟩ := c3.part (s := st.2.1) (e := e) (j := 0) (by omega)
    have hrow : rowF st.2.1 e 0 = (en st.2.1 e).1 := rfl
    rw [hrow] at p1 p2
    have l3 := c4.1
    refine ⟨h, ?_, r, Fr.rf⟩
    rw [b152_32]
    simp only [fO a, sm_gI_s, sm_gR_s, sm_gJ_s, sm_cR_s, sm_al_s, sm_sw_s, sm_tl1, sm_tl0, sm_ap0, sm_ap1, List.getElem?_cons_zero, List.getElem?_cons_succ, nk10, nk11, if_true, eq_self]
    rw [aO c1, ldO (show 3 + 36 * e < 219 by omega) (by omega), show 3 + 36 * e = 3 + 36 * e + 32 * 0 from rfl, p1, if_pos (nI_le (by omega) (by omega)), b152_114]
    rfl
  | succ d ih =>
    intro p hp h o fw ls r fn h1 h2 h3
    obtain ⟨⟨q0, a⟩, -, ⟨f0, c1, c2⟩, -⟩ := id r
    have h6 := r.h6
    obtain ⟨c3, c4⟩ := c2.2.2.2.2 e he
    obtain ⟨p1, p2⟩ := c3.part (s := st.2.1) (e := e) (j := 0) (by omega)
    have hrow : rowF st.2.1 e 0 = (en st.2.1 e).1 := rfl
    rw [hrow] at p1 p2
    have l3 := c4.1
    have hA := c4.2.2.1 p
    have hp2 : p < (en st.2.1 e).1.length := by omega
    have p3 := p2 p hp2
    rw [Nat.mul_zero, show 3 + 36 * e + 0 = 3 + 36 * e from rfl] at p1 p3
    rw [b152_32]
    simp only [fO a, sm_gI_s, sm_gR_s, sm_gJ_s, sm_cR_s, sm_al_s, sm_sw_s, sm_tl1, sm_tl0, sm_ap0, sm_ap1, List.getElem?_cons_zero, List.getElem?_cons_succ, nk10, nk11, if_true, eq_self, fn.l9 he h6, nI_add]
    rw [aO c1, ldO (show 3 + 36 * e < 219 by omega) (by omega), p1, if_neg (nI_ge (by omega) (by omega)), if_neg (nI_ge h1L (by omega)), ldO (show 3 + 36 * e + 1 + p < 219 by omega) (by omega), p3]
    simp only [nI_eq (show nA (en st.2.1 e).1 p < 2 ^ 31 by omega) (show 63 < 2 ^ 31 by omega)]
    unfold bpl
    by_cases hq : nA (en st.2.1 e).1 p = 63
    · rw [if_pos hq, if_pos hq, vO a]
      obtain ⟨h4, e4, r4, fn4, k4⟩ := m151 (X := X) r fn he hp2 hq
      have hm : mstN (agE st.2.1 e).1 p ≤ 1000 := by
        have := mst_le (l := (agE st.2.1 e).1) (p := p) (agE st.2.1 e).1.length 0 (fun _ => 0) 0 (fun _ => Nat.le_refl _) (Nat.le_refl _)
        unfold mstN
        omega
      rw [e4]
      simp only [sm_gI_s, sm_gR_s, sm_gJ_s, sm_cR_s, sm_al_s, sm_sw_s, sm_tl1, sm_tl0, sm_ap0, sm_ap1, List.getElem?_cons_zero, List.getElem?_cons_succ, nk10, nk11, if_true, eq_self, b152_76]
      have hif : (o = none ∨ mstN (agE st.2.1 e).1 p < fw) ↔ mstN (agE st.2.1 e).1 p < ls := by
        cases o with
        | none =>
          have := h1 rfl
          exact ⟨fun _ => by omega, fun _ => Or.inl rfl⟩
        | some q =>
          have := h2 q rfl
          rw [this]
          exact ⟨fun h => by rcases h with h | h; cases h; exact h, fun h => Or.inr h⟩
      by_cases hc : mstN (agE st.2.1 e).1 p < ls
      · obtain ⟨h5, e5, r5, k5⟩ := ih (p + 1) (by omega) h4 (some p) (mstN (agE st.2.1 e).1 p) (mstN (agE st.2.1 e).1 p) r4 fn4 (fun q => by cases q) (fun _ _ => rfl) (by omega)
        refine ⟨h5, ?_, r5, k4.s k5⟩
        rw [if_pos (hif.mpr hc), if_neg (nI_ge hc (by omega)), b152_91, if_neg (nI_ge hc (by omega)), b152_106, b152_108, nI_add]
        exact e5
      · obtain ⟨h5, e5, r5, k5⟩ := ih (p + 1) (by omega) h4 o fw ls r4 fn4 h1 h2 h3
        refine ⟨h5, ?_, r5, k4.s k5⟩
        rw [if_neg (fun q => hc (hif.mp q)), if_pos (nI_le (by omega) (by omega)), b152_91, if_pos (nI_le (by omega) (by omega)), b152_106, b152_108, nI_add]
        exact e5
    · rw [if_neg hq, if_neg hq, b152_108, nI_add]
      exact ih (p + 1) (by omega) h o fw ls r fn h1 h2 h3
theorem m152 {X : smX} {h : smH} {M : Nat} {st : St} (r : RepM h M st) (x : Int32) : ∃ h', sm_C PP X 152 [.ref M, .int x] h = some (some (.int (qLook st x)), h') ∧ RepM h' M st ∧ Fr h h' M (M + 16) := by
  obtain ⟨⟨q0, a⟩, -⟩ := id r
  have h6 := r.h6
  unfold qLook
  rw [c152, b152_0, vO a, m116 r]
  simp only [sm_gI_s, sm_gR_s, sm_gJ_s, sm_cR_s, sm_al_s, sm_sw_s, sm_tl1, sm_tl0, sm_ap0, sm_ap1, List.getElem?_cons_zero, List.getElem?_cons_succ, nk10, nk11, if_true, eq_self, b152_5, bI_0]
  rcases e_cs st.2.1.1.length x with ⟨e, he, h31, rfl⟩ | hv
  · rw [vN_t he h31, if_neg (show ¬ (true = false) by decide), if_pos rfl, nTN h31, vO a]
    obtain ⟨h1, e1, r1, ag1, k1⟩ := m134 (X := X) r r.ag he
    obtain ⟨f, g, c, fn⟩ := ag1.f1 he uP_eq
    rw [e1]
    simp only [sm_gI_s, sm_gR_s, sm_gJ_s, sm_cR_s, sm_al_s, sm_sw_s, sm_tl1, sm_tl0, sm_ap0, sm_ap1, List.getElem?_cons_zero, List.getElem?_cons_succ, nk10, nk11, if_true, eq_self, b152_15, m118 (show e < 100 by omega) (show 0 < 2 by omega), b152_20, Nat.mul_zero, Nat.add_zero]
    by_cases hL : 1 < (agE st.2.1 e).1.length
    · obtain ⟨h2, e2, r2, k2⟩ := m152_loop (X := X) he hL (en st.2.1 e).1.length 0 (by omega) h1 none 0 1001 r1 fn (fun _ => rfl) (fun q hq => by cases hq) (by omega)
      refine ⟨h2, ?_, r2, k1.s k2⟩
      rw [if_pos hL]
      exact e2
    · obtain ⟨⟨q1, a1⟩, -, ⟨f0, c1, c2⟩, -⟩ := id r1
      refine ⟨h1, ?_, r1, k1⟩
      rw [if_neg hL, b152_32]
      simp only [fO a1, sm_gI_s, sm_gR_s, sm_gJ_s, sm_cR_s, sm_al_s, sm_sw_s, sm_tl1, sm_tl0, sm_ap0, sm_ap1, List.getElem?_cons_zero, List.getElem?_cons_succ, nk10, nk11, if_true, eq_self, fn.l9 he h6, b152_114]
      rw [aO c1, ldO (show 3 + 36 * e < 219 by omega) (by omega), if_pos (show nI (agE st.2.1 e).1.length ≤ nI 1 from nI_le (by omega) (by omega))]
      split <;> rfl
  · rw [vN_f hv, if_pos rfl, if_neg (show ¬ (false = true) by decide)]
    exact ⟨h, rfl, r, Fr.rf⟩
