/-! drops of the reference -/
def shf (f : Nat → Int32) (a k : Nat) : Nat → Int32 := fun y => if a ≤ y ∧ y < k then f (y + 36) else f y
theorem shf_0 {f : Nat → Int32} {a : Nat} : shf f a a = f := by
  funext y
  unfold shf
  rw [if_neg (by omega)]
theorem shf_up {f : Nat → Int32} {a k : Nat} (h : a ≤ k) : upd (shf f a k) k (shf f a k (k + 36)) = shf f a (k + 1) := by
  funext y
  have e1 : shf f a k (k + 36) = f (k + 36) := if_neg (by omega)
  by_cases e : y = k
  · rw [e, pk_us, e1]
    exact (if_pos (by omega)).symm
  · rw [pk_un e]
    unfold shf
    by_cases q : a ≤ y ∧ y < k
    · rw [if_pos q, if_pos (by omega)]
    · rw [if_neg q, if_neg (by omega)]
theorem m117_loop {X : smX} {M a n dd l q : Nat} {f : Nat → Int32} (hn : 0 < n) (hn6 : n ≤ 6) (ha : 0 < a) (f0 : f 0 = nI n) : ∀ (d k : Nat), k + d = 183 → a ≤ k → ∀ h : smH, MObj h M dd l q → IA h (M + 1) 219 (shf f a k) → ∃ h', sm_E PP X 117 21 [(0, .ref M), (2, .int (nI k))] [] h = some (some (.int (nI (n - 1))), h') ∧ IA h' (M + 1) 219 (upd (shf f a 183) 0 (nI (n - 1))) ∧ Fr h h' (M + 1) (M + 2) := by
  intro d
  induction d with
  | zero =>
    intro k hk hak h ro rf
    obtain rfl : k = 183 := by omega
    have f0' : shf f a 183 0 = nI n := by
      unfold shf
      rw [if_neg (by omega)]; exact f0
    have k1 : Fr h (sm_w h (M + 1) (.inl (.int, 219, .inl (upd (shf f a 183) 0 (nI (n - 1)))))) (M + 1) (M + 2) := Fr.w
    have ro1 := ro.fr k1 (by omega)
    refine ⟨_, ?_, w_eq, k1⟩
    rw [b117_21, if_pos (by decide)]
    simp only [fO ro, sm_gI_s, sm_gR_s, sm_gJ_s, sm_cR_s, sm_al_s, sm_sw_s, sm_tl1, sm_tl0, sm_ap0, sm_ap1, List.getElem?_cons_zero, List.getElem?_cons_succ, nk10, nk11, if_true, eq_self]
    rw [aO rf, ldO (show 0 < 219 by omega) (by omega), f0', pk_sub (by omega), stO rf (show 0 < 219 by omega) (by omega)]
    simp only [fO ro1, sm_gI_s, sm_gR_s, sm_gJ_s, sm_cR_s, sm_al_s, sm_sw_s, sm_tl1, sm_tl0, sm_ap0, sm_ap1, List.getElem?_cons_zero, List.getElem?_cons_succ, nk10, nk11, if_true, eq_self]
    rw [aO (w_eq : (sm_w h (M + 1) _).1 (M + 1) = _), ldO (show 0 < 219 by omega) (by omega), pk_us]
  | succ d ih =>
    intro k hk hak h ro rf
    have k1 : Fr h (sm_w h (M + 1) (.inl (.int, 219, .inl (shf f a (k + 1))))) (M + 1) (M + 2) := Fr.w
    obtain ⟨h2, e2, q2, k2⟩ := ih (k + 1) (by omega) (by omega) _ (ro.fr k1 (by omega)) w_eq
    refine ⟨h2, ?_, q2, k1.s k2⟩
    rw [b117_21]
    simp only [fO ro, sm_gI_s, sm_gR_s, sm_gJ_s, sm_cR_s, sm_al_s, sm_sw_s, sm_tl1, sm_tl0, sm_ap0, sm_ap1, List.getElem?_cons_zero, List.getElem?_cons_succ, nk10, nk11, if_true, eq_self, nI_add]
    rw [if_neg (nI_ge (by omega) (by omega)), aO rf, ldO (show k + 36 < 219 by omega) (by omega), stO rf (show k < 219 by omega) (by omega), shf_up hak]
    exact e2
theorem m117 {X : smX} {h : smH} {M : Nat} {st : St} (r : RepM h M st) (x : Int32) : ∃ h', sm_C PP X 117 [.ref M, .int x] h = some (some (.int (opDrops st x).1), h') ∧ RepM h' M (opDrops st x).2 ∧ Fr h h' M (M + 16) := by
  obtain ⟨⟨q, a⟩, -, ⟨f, c1, c2⟩, -⟩ := id r
  have h6 := c2.2.2.2.1.1
  unfold opDrops
  rw [c117, b117_0, vO a, m116 r]
  simp only [sm_gI_s, sm_gR_s, sm_gJ_s, sm_cR_s, sm_al_s, sm_sw_s, sm_tl1, sm_tl0, sm_ap0, sm_ap1, List.getElem?_cons_zero, List.getElem?_cons_succ, nk10, nk11, if_true, eq_self, b117_5, bI_0]
  rcases e_cs st.2.1.1.length x with ⟨e, he, h31, rfl⟩ | hv
  · rw [vN_t he h31, if_neg (show ¬ (true = false) by decide), vO a, nI_toInt h31, if_pos (by omega), Int.toNat_natCast]
    obtain ⟨h2', e2, r2, i2, k2⟩ := m114 (X := X) r
    obtain ⟨⟨q2, a2⟩, -⟩ := id r2
    obtain ⟨h3, e3, q3, k3⟩ := m117_loop (X := X) (a := 3 + 36 * e) (n := st.2.1.1.length) (f := f) (by omega) h6 (by omega) c2.1 (183 - (3 + 36 * e)) (3 + 36 * e) (by omega) (Nat.le_refl _) h2' a2 (by rw [shf_0]; exact i2 f c1)
    have hlen : (st.2.1.1.eraseIdx e).length = st.2.1.1.length - 1 := List.length_eraseIdx_of_lt (by omega)
    have r3 := r2.now (s := (st.2.1.1.eraseIdx e, st.2.1.2)) k3 ⟨_, q3, by rw [pk_us, hlen], by rw [pk_un (by omega)]; exact (if_neg (by omega)).trans c2.2.1, by rw [pk_un (by omega)]; exact (if_neg (by omega)).trans c2.2.2.1, ⟨by rw [hlen]; omega, c2.2.2.2.1.2⟩, fun i hi => by
      rw [hlen] at hi
      have hen : en (st.2.1.1.eraseIdx e, st.2.1.2) i = if i < e then en st.2.1 i else en st.2.1 (i + 1) := en_erase (a := st.2.1.2.1) (b := st.2.1.2.2)
      rw [hen]
      by_cases h0 : i < e
      · rw [if_pos h0]
        obtain ⟨z1, z2⟩ := c2.2.2.2.2 i (by omega)
        exact ⟨z1.cp z2 (fun k hk => by
          rw [pk_un (by omega)]
          exact if_neg (by omega)), z2⟩
      · rw [if_neg h0]
        obtain ⟨z1, z2⟩ := c2.2.2.2.2 (i + 1) (by omega)
        exact ⟨z1.cp z2 (fun k hk => by
          rw [pk_un (by omega)]
          show shf f (3 + 36 * e) 183 (0 + 3 + 36 * i + k) = _
          unfold shf
          rw [if_pos (by omega), show 0 + 3 + 36 * i + k + 36 = 0 + 3 + 36 * (i + 1) + k by omega]), z2⟩⟩
    rw [e2]
    simp only [sm_gI_s, sm_gR_s, sm_gJ_s, sm_cR_s, sm_al_s, sm_sw_s, sm_tl1, sm_tl0, sm_ap0, sm_ap1, List.getElem?_cons_zero, List.getElem?_cons_succ, nk10, nk11, if_true, eq_self, b117_14, pk_mul, nI_add]
    rw [e3]
    exact ⟨h3, rfl, r3, k2.s (k3.mono (by omega) (by omega))⟩
  · rw [vN_f hv, if_pos rfl, if_neg hv]
    exact ⟨h, rfl, r, Fr.rf⟩
