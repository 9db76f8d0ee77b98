/-! least of the reference -/
theorem lsq_alt {s : Sh} {j : Nat} (h0 : (agE s j).1.length = 0) : ∀ r i x : Nat, i ≤ j → j < i + r → lsq s r i x = none := by
  intro r
  induction r with
  | zero => intro i x h1 h2; omega
  | succ r ih =>
    intro i x h1 h2
    cases e : lsq s (r + 1) i x with
    | none => rfl
    | some v =>
      unfold lsq at e
      rcases laS_ex _ _ _ e with q | ⟨k, g1, g2, g3⟩
      · cases q
      · by_cases e0 : j = i
        · rw [e0] at h0; omega
        · unfold dwt at g3
          rw [ih (i + 1) _ (by omega) (by omega)] at g3
          split at g3 <;> cases g3
theorem m144_pick {X : smX} {h : smH} {M d0 l0 q0 e x v : Nat} {w : Int32} {s : Sh} {t : Nat} {f g c p q ch : Nat → Int32} (a : MObj h M d0 l0 q0) (rn : MNow h M s) (ok : agOk s) (h6 : s.1.length ≤ 6) (fn : FnM h M s f g c) (rl : LsM h M s t 0 p q) (i12 : IA h (M + 12) 6 ch) (he : e < s.1.length) (hx : x ≤ t) (ht : t ≤ 5994) (hv : lsq s (s.1.length - e) e x = some v) : ∀ (d k : Nat), k + d = (agE s e).1.length → (∃ j, k ≤ j ∧ j < k + d ∧ dwt (agE s e).1 j (lsq s (s.1.length - (e + 1)) (e + 1)) x = some v) → sm_E PP X 144 95 [(0, .ref M), (2, .int w), (3, .int (nI x)), (4, .int (nI e)), (5, .int (nI (1000 * e + k)))] [] h = sm_E PP X 144 76 [(0, .ref M), (2, .int w), (3, .int (nI (x - loI (agE s e).1 (lsq s (s.1.length - (e + 1)) (e + 1)) x v d k))), (4, .int (nI (e + 1)))] [] (sm_w h (M + 12) (.inl (.int, 6, .inl (upd ch e (nI (loI (agE s e).1 (lsq s (s.1.length - (e + 1)) (e + 1)) x v d k)))))) := by
  intro d
  have hl := ag_le (s := s) (e := e)
  have hv2 := lsq_B ok h6 (show e + (s.1.length - e) = s.1.length by omega) x v hv
  induction d with
  | zero => intro k hk ⟨j, j1, j2, j3⟩; omega
  | succ d ih =>
    intro k hk ⟨j, j1, j2, j3⟩
    have hk2 : k < (agE s e).1.length := by omega
    have hbd := ok e he k hk2
    have next : ¬ dwt (agE s e).1 k (lsq s (s.1.length - (e + 1)) (e + 1)) x = some v → sm_E PP X 144 141 [(0, .ref M), (2, .int w), (3, .int (nI x)), (4, .int (nI e)), (5, .int (nI (1000 * e + k)))] [] h = sm_E PP X 144 76 [(0, .ref M), (2, .int w), (3, .int (nI (x - loI (agE s e).1 (lsq s (s.1.length - (e + 1)) (e + 1)) x v (d + 1) k))), (4, .int (nI (e + 1)))] [] (sm_w h (M + 12) (.inl (.int, 6, .inl (upd ch e (nI (loI (agE s e).1 (lsq s (s.1.length - (e + 1)) (e + 1)) x v (d + 1) k)))))) := fun hn => by
      have e1 : loI (agE s e).1 (lsq s (s.1.length - (e + 1)) (e + 1)) x v (d + 1) k = loI (agE s e).1 (lsq s (s.1.length - (e + 1)) (e + 1)) x v d (k + 1) := if_neg hn
      have hj : j ≠ k := fun q => hn (q ▸ j3)
      rw [b144_141, nI_add, Nat.add_assoc, e1]
      exact ih (k + 1) (by omega) ⟨j, by omega, by omega, j3⟩
    rw [b144_95]
    simp only [fO a, sm_gI_s, sm_gR_s, sm_gJ_s, sm_cR_s, sm_al_s, sm_sw_s, sm_tl1, sm_tl0, sm_ap0, sm_ap1, List.getElem?_cons_zero, List.getElem?_cons_succ, nk10, nk11, if_true, eq_self, fn.l7 he h6 hk2]
    by_cases h1 : x < pN (agE s e).1 k
    · rw [if_pos (nI_lt h1 (by omega))]
      exact next (fun q => by unfold dwt at q; rw [if_pos h1] at q; cases q)
    · have h2 : pN (agE s e).1 k ≤ x := by omega
      rw [if_neg (nI_nlt (by omega) (by omega)), pk_sub h2, nI_add, vO a, m142k a rn h6 rl (Nat.zero_le _) (show e + 1 ≤ s.1.length by omega) (show x - pN (agE s e).1 k ≤ t by omega) ht]
      simp only [sm_gI_s, sm_gR_s, sm_gJ_s, sm_cR_s, sm_al_s, sm_sw_s, sm_tl1, sm_tl0, sm_ap0, sm_ap1, List.getElem?_cons_zero, List.getElem?_cons_succ, nk10, nk11, if_true, eq_self, b144_123, fO a, fn.l8 he h6 hk2, nI_add, vO a, m142k a rn h6 rl (Nat.zero_le _) (show e ≤ s.1.length by omega) hx ht, b144_138]
      have hb1 := lM_le ok h6 (x := x - pN (agE s e).1 k) (show (e + 1) + (s.1.length - (e + 1)) = s.1.length by omega)
      rw [hv]
      have hd : dwt (agE s e).1 k (lsq s (s.1.length - (e + 1)) (e + 1)) x = some v ↔ lM (lsq s (s.1.length - (e + 1)) (e + 1) (x - pN (agE s e).1 k)) + pD (agE s e).1 k = v := by
        unfold dwt
        rw [if_neg h1]
        cases eb : lsq s (s.1.length - (e + 1)) (e + 1) (x - pN (agE s e).1 k) with
        | none =>
          constructor
          · intro q; cases q
          · intro q
            have q : 100000 + pD (agE s e).1 k = v := q
            omega
        | some y =>
          constructor
          · intro q
            have q := Option.some.inj q
            show y + _ = v
            omega
          · intro q
            have q : y + pD (agE s e).1 k = v := q
            exact congrArg some (by omega)
      by_cases h3 : lM (lsq s (s.1.length - (e + 1)) (e + 1) (x - pN (agE s e).1 k)) + pD (agE s e).1 k = v
      · have e1 : loI (agE s e).1 (lsq s (s.1.length - (e + 1)) (e + 1)) x v (d + 1) k = pN (agE s e).1 k := if_pos (hd.mpr h3)
        rw [if_pos (show nI (lM (lsq s (s.1.length - (e + 1)) (e + 1) (x - pN (agE s e).1 k)) + pD (agE s e).1 k) = nI (lM (some v)) by rw [h3]; rfl), fn.l7 he h6 hk2, stO i12 (show e < 6 by omega) (by omega)]
        have k1 : Fr h (sm_w h (M + 12) (.inl (.int, 6, .inl (upd ch e (nI (pN (agE s e).1 k)))))) (M + 12) (M + 12 + 1) := Fr.w
        have a1 := a.fr k1 (by omega)
        have fn1 := fn.fr k1 (by omega)
        simp only [fO a1, sm_gI_s, sm_gR_s, sm_gJ_s, sm_cR_s, sm_al_s, sm_sw_s, sm_tl1, sm_tl0, sm_ap0, sm_ap1, List.getElem?_cons_zero, List.getElem?_cons_succ, nk10, nk11, if_true, eq_self, fn1.l7 he h6 hk2]
        rw [pk_sub h2, e1]
      · rw [if_neg (show ¬ nI (lM (lsq s (s.1.length - (e + 1)) (e + 1) (x - pN (agE s e).1 k)) + pD (agE s e).1 k) = nI (lM (some v)) from fun q => h3 ((nI_eq (by omega) (show lM (some v) < 2 ^ 31 by show v < 2 ^ 31; omega)).mp q))]
        exact next (fun q => h3 (hd.mp q))
theorem LsM.fr {h h' : smH} {M lo hi : Nat} {s t e0 f g} (x : LsM h M s t e0 f g) (k : Fr h h' lo hi) (hd : M + 11 < lo ∨ hi ≤ M + 10) : LsM h' M s t e0 f g := ⟨x.1.fr k (by omega), x.2.1.fr k (by omega), x.2.2⟩
theorem m144_all {X : smX} {M t : Nat} {w : Int32} {st : St} {f g c p q : Nat → Int32} (ht : t ≤ 5994) : ∀ (d e : Nat), e + d = st.2.1.1.length → lft st.2.1 t e ≤ t → (∃ v, lsq st.2.1 (st.2.1.1.length - e) e (lft st.2.1 t e) = some v) → ∀ (h : smH) (ch : Nat → Int32), RepM h M st → FnM h M st.2.1 f g c → LsM h M st.2.1 t 0 p q → IA h (M + 12) 6 ch → (∀ j, j < e → ch j = nI (loE st.2.1 j (lft st.2.1 t j))) → ∃ h' ch', sm_E PP X 144 76 [(0, .ref M), (2, .int w), (3, .int (nI (lft st.2.1 t e))), (4, .int (nI e))] [] h = some (some (.int w), h') ∧ RepM h' M st ∧ IA h' (M + 12) 6 ch' ∧ (∀ j, j < st.2.1.1.length → ch' j = nI (loE st.2.1 j (lft st.2.1 t j))) ∧ Fr h h' M (M + 16) := by
  intro d
  induction d with
  | zero =>
    intro e he hx hv h ch r fn rl i12 hc
    obtain ⟨⟨q0, a⟩, -, rn, -⟩ := id r
    have h6 := r.h6
    refine ⟨h, ch, ?_, r, i12, fun j hj => hc j (by omega), Fr.rf⟩
    rw [b144_76]
    simp only [fO a, sm_gI_s, sm_gR_s, sm_gJ_s, sm_cR_s, sm_al_s, sm_sw_s, sm_tl1, sm_tl0, sm_ap0, sm_ap1, List.getElem?_cons_zero, List.getElem?_cons_succ, nk10, nk11, if_true, eq_self, rn.l0]
    rw [if_pos (nI_le (by omega) (by omega))]
  | succ d ih =>
    intro e he hx ⟨v, hv⟩ h ch r fn rl i12 hc
    obtain ⟨⟨q0, a⟩, -, rn, -⟩ := id r
    have h6 := r.h6
    have he2 : e < st.2.1.1.length := by omega
    have hv0 := hv
    rw [show st.2.1.1.length - e = (st.2.1.1.length - (e + 1)) + 1 by omega] at hv0
    unfold lsq at hv0
    have hex : ∃ j, 0 ≤ j ∧ j < 0 + (agE st.2.1 e).1.length ∧ dwt (agE st.2.1 e).1 j (lsq st.2.1 (st.2.1.1.length - (e + 1)) (e + 1)) (lft st.2.1 t e) = some v := by
      rcases laS_ex _ _ _ hv0 with q | q
      · cases q
      · exact q
    have hp := m144_pick (X := X) (w := w) a rn r.ok h6 fn rl i12 he2 hx ht hv (agE st.2.1 e).1.length 0 (by omega) hex
    have hE : loI (agE st.2.1 e).1 (lsq st.2.1 (st.2.1.1.length - (e + 1)) (e + 1)) (lft st.2.1 t e) v (agE st.2.1 e).1.length 0 = loE st.2.1 e (lft st.2.1 t e) := by
      unfold loE
      rw [hv]
      rfl
    rw [hE, Nat.add_zero] at hp
    obtain ⟨j, y, g1, g2, g3, g4⟩ := loE_ok he2 hv
    have k1 : Fr h (sm_w h (M + 12) (.inl (.int, 6, .inl (upd ch e (nI (loE st.2.1 e (lft st.2.1 t e))))))) (M + 12) (M + 12 + 1) := Fr.w
    obtain ⟨h2, ch2, e2, r2, q2, x2, k2⟩ := ih (e + 1) (by omega) (by show lft st.2.1 t e - _ ≤ t; omega) ⟨y, g4⟩ _ (upd ch e (nI (loE st.2.1 e (lft st.2.1 t e)))) (r.cell k1 i12 w_eq (by omega)) (fn.fr k1 (by omega)) (rl.fr k1 (by omega)) w_eq (fun j hj => by
      by_cases e0 : j = e
      · rw [e0, pk_us]
      · rw [pk_un e0]; exact hc j (by omega))
    refine ⟨h2, ch2, ?_, r2, q2, x2, (k1.mono (by omega) (by omega)).s k2⟩
    rw [b144_76]
    simp only [fO a, sm_gI_s, sm_gR_s, sm_gJ_s, sm_cR_s, sm_al_s, sm_sw_s, sm_tl1, sm_tl0, sm_ap0, sm_ap1, List.getElem?_cons_zero, List.getElem?_cons_succ, nk10, nk11, if_true, eq_self, rn.l0, pk_mul]
    rw [if_neg (nI_ge he2 (by omega)), hp]
    exact e2
/-- findSum -/
theorem m144 {X : smX} {h : smH} {M t : Nat} {st : St} {f g c : Nat → Int32} (r : RepM h M st) (fn : FnM h M st.2.1 f g c) (hT : st.2.1.2.2 = some t) : ∃ h' ch', sm_C PP X 144 [.ref M] h = some (some (.int (oI (leastD st.2.1))), h') ∧ RepM h' M st ∧ IA h' (M + 12) 6 ch' ∧ (∀ v, leastD st.2.1 = some v → ∀ j, j < st.2.1.1.length → ch' j = nI (lnE st.2.1 j)) ∧ Fr h h' M (M + 16) := by
  obtain ⟨⟨q0, a⟩, -, rn, -, -, -, -, -, -, ⟨p, i10⟩, ⟨q, i11⟩, ⟨ch, i12⟩, -⟩ := id r
  have h6 := r.h6
  have ht9 : t ≤ 9999 := rn.choose_spec.2.2.2.2.1.2.2 t hT
  have hD : leastD st.2.1 = if 5994 < t then none else lsq st.2.1 st.2.1.1.length 0 t := by
    unfold leastD
    rw [hT]
    by_cases hz : alt st.2.1 st.2.1.1.length 0 0 = 0
    · rw [if_pos hz]
    · rw [if_neg hz]
      rw [alt_iff, Classical.not_not] at hz
      obtain ⟨j, j1, j2⟩ := hz
      rw [lsq_alt j2 _ _ _ (Nat.zero_le _) (by omega)]
      split <;> rfl
  rw [hD, c144, b144_0]
  simp only [fO a, sm_gI_s, sm_gR_s, sm_gJ_s, sm_cR_s, sm_al_s, sm_sw_s, sm_tl1, sm_tl0, sm_ap0, sm_ap1, List.getElem?_cons_zero, List.getElem?_cons_succ, nk10, nk11, if_true, eq_self, rn.l2, rn.l0]
  rw [hT, oIs]
  by_cases h1 : 5994 < t
  · rw [if_neg (nI_nlt (by omega) (by omega)), if_pos h1]
    exact ⟨h, ch, rfl, r, i12, fun v hv => (by cases hv), Fr.rf⟩
  · rw [if_pos (nI_lt (by omega) (by omega)), if_neg h1, Int32.sub_eq_add_neg]
    obtain ⟨h2, p2, q2, e2, r2, fn2, rl2, k2⟩ := m144_rows (X := X) (show t ≤ 5994 by omega) st.2.1.1.length (Nat.le_refl _) h p q r fn ⟨i10, i11, fun j j1 j2 => by omega⟩
    rw [e2, b144_61]
    obtain ⟨-, -, -, -, -, -, -, -, -, -, -, ⟨ch2, j12⟩, -⟩ := id r2
    cases eL : lsq st.2.1 st.2.1.1.length 0 t with
    | none =>
      rw [if_neg (show ¬ nI (lM none) < nI 100000 from nI_nlt (Nat.le_refl _) (by decide))]
      exact ⟨h2, ch2, rfl, r2, j12, fun v hv => (by cases hv), k2⟩
    | some v =>
      have hv2 := lsq_B r.ok h6 (show 0 + st.2.1.1.length = st.2.1.1.length by omega) t v eL
      have a3 : lft st.2.1 t 0 = t := rfl
      obtain ⟨h3, ch3, e3, r3, q3, x3, k3⟩ := m144_all (X := X) (w := nI v) (show t ≤ 5994 by omega) st.2.1.1.length 0 (by omega) (Nat.le_refl _) ⟨v, eL⟩ h2 ch2 r2 fn2 rl2 j12 (fun j hj => absurd hj (Nat.not_lt_zero j))
      rw [if_pos (show nI (lM (some v)) < nI 100000 from nI_lt (show v < 100000 by omega) (by decide))]
      refine ⟨h3, ch3, e3, r3, q3, fun v hv j hj => ?_, k2.s k3⟩
      rw [x3 j hj]
      unfold lnE
      rw [hT]
/-- findLeast -/
theorem m145 {X : smX} {h : smH} {M : Nat} {st : St} (r : RepM h M st) : ∃ h' ch', sm_C PP X 145 [.ref M] h = some (some (.int (oI (leastD st.2.1))), h') ∧ RepM h' M st ∧ IA h' (M + 12) 6 ch' ∧ (∀ v, leastD st.2.1 = some v → ∀ j, j < st.2.1.1.length → ch' j = nI (lnE st.2.1 j)) ∧ Fr h h' M (M + 16) := by
  obtain ⟨⟨q0, a⟩, -⟩ := id r
  obtain ⟨h1, e1, r1, ag1, k1⟩ := m140 (X := X) r
  obtain ⟨f, g, c, fn⟩ := ag1.fn
  obtain ⟨⟨q1, a1⟩, -, rn1, -⟩ := id r1
  rw [c145, b145_0, vO a, e1]
  simp only [sm_gI_s, sm_gR_s, sm_gJ_s, sm_cR_s, sm_al_s, sm_sw_s, sm_tl1, sm_tl0, sm_ap0, sm_ap1, List.getElem?_cons_zero, List.getElem?_cons_succ, nk10, nk11, if_true, eq_self, b145_4, fO a1, rn1.l2, vO a1]
  cases eT : st.2.1.2.2 with
  | none =>
    obtain ⟨h2, ch, e2, r2, i2, x2, k2⟩ := m141 (X := X) r1 fn eT
    rw [if_pos (show oI none = -nI 9 from rfl), e2]
    simp only [sm_gI_s, sm_gR_s, sm_gJ_s, sm_cR_s, sm_al_s, sm_sw_s, sm_tl1, sm_tl0, sm_ap0, sm_ap1, List.getElem?_cons_zero, List.getElem?_cons_succ, nk10, nk11, if_true, eq_self, b145_19, b145_26]
    exact ⟨h2, ch, rfl, r2, i2, x2, k1.s k2⟩
  | some t =>
    have ht9 : t ≤ 9999 := rn1.choose_spec.2.2.2.2.1.2.2 t eT
    obtain ⟨h2, ch, e2, r2, i2, x2, k2⟩ := m144 (X := X) r1 fn eT
    rw [if_neg (show ¬ oI (some t) = -nI 9 from neg9_ne (by omega)), e2]
    simp only [sm_gI_s, sm_gR_s, sm_gJ_s, sm_cR_s, sm_al_s, sm_sw_s, sm_tl1, sm_tl0, sm_ap0, sm_ap1, List.getElem?_cons_zero, List.getElem?_cons_succ, nk10, nk11, if_true, eq_self, b145_26]
    exact ⟨h2, ch, rfl, r2, i2, x2, k1.s k2⟩
theorem leastD_b {s : Sh} (ok : agOk s) (h6 : s.1.length ≤ 6) {v : Nat} (h : leastD s = some v) : v ≤ 1000 := by
  unfold leastD at h
  split at h
  · rename_i hz
    have h0 := alt_0 _ _ _ hz
    split at h
    · have := sumF_le ok (fun j hj => h0 j (by omega) (by omega)) s.1.length 0 0 (by omega)
      cases h
      omega
    · split at h
      · cases h
      · exact lsq_B ok h6 (show 0 + s.1.length = s.1.length by omega) _ _ h
  · cases h
theorem m146 {X : smX} {h : smH} {M : Nat} {st : St} (r : RepM h M st) (x : Int32) : ∃ h', sm_C PP X 146 [.ref M, .int x] h = some (some (.int (qLeast st x)), h') ∧ RepM h' M st ∧ Fr h h' M (M + 16) := by
  obtain ⟨⟨q0, a⟩, -⟩ := id r
  have h6 := r.h6
  obtain ⟨h1, ch, e1, r1, i1, x1, k1⟩ := m145 (X := X) r
  obtain ⟨⟨q1, a1⟩, -⟩ := id r1
  have n9 : (oI (leastD st.2.1) = -nI 9) = (leastD st.2.1 = none) := by
    cases eL : leastD st.2.1 with
    | none => exact propext ⟨fun _ => rfl, fun _ => rfl⟩
    | some k =>
      have := leastD_b r.ok h6 eL
      exact propext ⟨fun h => absurd h (neg9_ne (by omega)), fun h => by cases h⟩
  unfold qLeast
  rw [c146, b146_0]
  by_cases hx : x = -nI 1
  · rw [if_pos hx, if_pos hx, b146_15, vO a, e1]
    simp only [sm_gI_s, sm_gR_s, sm_gJ_s, sm_cR_s, sm_al_s, sm_sw_s, sm_tl1, sm_tl0, sm_ap0, sm_ap1, List.getElem?_cons_zero, List.getElem?_cons_succ, nk10, nk11, if_true, eq_self, b146_19, b146_31, b146_41]
    rw [if_pos hx]
    refine ⟨h1, ?_, r1, k1⟩
    split <;> rfl
  · rw [if_neg hx, if_neg hx, vO a, m116 r]
    simp only [sm_gI_s, sm_gR_s, sm_gJ_s, sm_cR_s, sm_al_s, sm_sw_s, sm_tl1, sm_tl0, sm_ap0, sm_ap1, List.getElem?_cons_zero, List.getElem?_cons_succ, nk10, nk11, if_true, eq_self, b146_10, bI_0]
    rcases e_cs st.2.1.1.length x with ⟨e, he, h31, rfl⟩ | hv
    · rw [vN_t he h31, if_neg (show ¬ (true = false) by decide), if_pos rfl, nTN h31, b146_15, vO a, e1]
      simp only [sm_gI_s, sm_gR_s, sm_gJ_s, sm_cR_s, sm_al_s, sm_sw_s, sm_tl1, sm_tl0, sm_ap0, sm_ap1, List.getElem?_cons_zero, List.getElem?_cons_succ, nk10, nk11, if_true, eq_self, b146_19, b146_31, b146_41, n9]
      refine ⟨h1, ?_, r1, k1⟩
      cases eL : leastD st.2.1 with
      | none => rw [if_pos rfl]; rfl
      | some v =>
        rw [if_neg (by intro q; cases q), if_neg hx]
        simp only [fO a1, sm_gI_s, sm_gR_s, sm_gJ_s, sm_cR_s, sm_al_s, sm_sw_s, sm_tl1, sm_tl0, sm_ap0, sm_ap1, List.getElem?_cons_zero, List.getElem?_cons_succ, nk10, nk11, if_true, eq_self]
        rw [aO i1, ldO (show e < 6 by omega) (by omega), x1 v eL e he]
    · rw [vN_f hv, if_pos rfl, if_neg (show ¬ (false = true) by decide)]
      exact ⟨h, rfl, r, Fr.rf⟩
