/-! findFree of the reference -/
theorem sc_f {h h' : smH} {a b : Nat} {ty ty2 : FieldType} {n n2 : Nat} {f0 f1 g : Nat → Int32} (k : Fr h h' a (a + 1)) (ho : h.1 a = some (.inl (ty, n, .inl f0))) (hn : h'.1 a = some (.inl (ty, n, .inl f1))) (x : h.1 b = some (.inl (ty2, n2, .inl g))) : ∃ g', h'.1 b = some (.inl (ty2, n2, .inl g')) := by
  by_cases e : b = a
  · subst e
    rw [ho] at x
    cases x
    exact ⟨f1, hn⟩
  · exact ⟨g, (k.2 b (by omega)).trans x⟩
/-- one of the arrays behind the sheets is another one -/
theorem RepM.cell {h h' : smH} {M a n : Nat} {ty : FieldType} {f0 f1 : Nat → Int32} {st : St} (r : RepM h M st) (k : Fr h h' a (a + 1)) (ho : h.1 a = some (.inl (ty, n, .inl f0))) (hn : h'.1 a = some (.inl (ty, n, .inl f1))) (h1 : M + 6 ≤ a) : RepM h' M st := by
  obtain ⟨⟨q, a0⟩, b, c, d, e, ⟨⟨f1, a1⟩, ⟨f2, a2⟩, ⟨f3, a3⟩, ⟨f4, a4⟩, ⟨f5, a5⟩, ⟨f6, a6⟩, ⟨f7, a7⟩, ⟨f8, a8⟩, ⟨f9, a9⟩, f10, a10⟩⟩ := r
  exact ⟨⟨q, a0.fr k (by omega)⟩, b.fr k (by omega), c.fr k (by omega), d.fr k (by omega), e.fr k (by omega), sc_f k ho hn a1, sc_f k ho hn a2, sc_f k ho hn a3, sc_f k ho hn a4, sc_f k ho hn a5, sc_f k ho hn a6, sc_f k ho hn a7, sc_f k ho hn a8, sc_f k ho hn a9, sc_f k ho hn a10⟩
def bsE (s : Sh) (e : Nat) : Nat := if (agE s e).1.length = 0 then 100000 else pD (agE s e).1 (fmI (agE s e).1)
theorem m141_in {X : smX} {M d0 l0 q0 e S : Nat} {s : Sh} {f g c : Nat → Int32} (he : e < s.1.length) (h6 : s.1.length ≤ 6) (hb : ∀ k, k < (agE s e).1.length → pD (agE s e).1 k < 100) (hS : S ≤ 600000) : ∀ (d k : Nat), k + d = (agE s e).1.length → ∀ (h : smH) (ch : Nat → Int32) (b : Nat), MObj h M d0 l0 q0 → FnM h M s f g c → IA h (M + 12) 6 ch → ((k = 0 ∧ b = 100000) ∨ ∃ m, m < k ∧ b = pD (agE s e).1 m ∧ ch e = nI (pN (agE s e).1 m) ∧ ∀ j, j < k → pD (agE s e).1 m < pD (agE s e).1 j ∨ (pD (agE s e).1 m = pD (agE s e).1 j ∧ m ≤ j)) → ∃ h' ch', sm_E PP X 141 24 [(0, .ref M), (1, .int (nI S)), (2, .int (nI e)), (3, .int (nI b)), (4, .int (nI (1000 * e + k)))] [] h = sm_E PP X 141 4 [(0, .ref M), (1, .int (nI (S + bsE s e))), (2, .int (nI (e + 1)))] [] h' ∧ IA h' (M + 12) 6 ch' ∧ (∀ j, j ≠ e → ch' j = ch j) ∧ (0 < (agE s e).1.length → ch' e = nI (pN (agE s e).1 (fmI (agE s e).1))) ∧ Fr h h' (M + 12) (M + 12 + 1) := by
  intro d
  have hl := ag_le (s := s) (e := e)
  induction d with
  | zero =>
    intro k hk h ch b a x i12 hm
    have hbs : b = bsE s e ∧ (0 < (agE s e).1.length → ch e = nI (pN (agE s e).1 (fmI (agE s e).1))) := by
      unfold bsE
      rcases hm with ⟨h1, h2⟩ | ⟨m, h1, h2, h3, h4⟩
      · rw [if_pos (by omega)]
        exact ⟨h2, fun q => by omega⟩
      · rw [if_neg (by omega)]
        obtain ⟨-, g2, g3⟩ := fm_ok (l := (agE s e).1) (by omega)
        have y1 := g3 m (by omega)
        have y2 := h4 (fmI (agE s e).1) (by omega)
        have : m = fmI (agE s e).1 := by omega
        rw [← this]
        exact ⟨h2, fun _ => h3⟩
    refine ⟨h, ch, ?_, i12, fun j _ => rfl, hbs.2, Fr.rf⟩
    rw [b141_24]
    simp only [fO a, sm_gI_s, sm_gR_s, sm_gJ_s, sm_cR_s, sm_al_s, sm_sw_s, sm_tl1, sm_tl0, sm_ap0, sm_ap1, List.getElem?_cons_zero, List.getElem?_cons_succ, nk10, nk11, if_true, eq_self, x.l9 he h6, pk_mul, nI_add]
    rw [if_pos (nI_le (by omega) (by omega)), hbs.1]
  | succ d ih =>
    intro k hk h ch b a x i12 hm
    have hk2 : k < (agE s e).1.length := by omega
    have hD := hb k hk2
    have hb3 : b ≤ 100000 := by
      rcases hm with ⟨h1, h2⟩ | ⟨m, h1, h2, h3, h4⟩
      · omega
      · have := hb m (by omega); omega
    have go : ∀ (v b1 : Nat), b1 = (if pD (agE s e).1 k < b then pD (agE s e).1 k else b) → (∃ m, m < k + 1 ∧ b1 = pD (agE s e).1 m ∧ nI v = nI (pN (agE s e).1 m) ∧ ∀ j, j < k + 1 → pD (agE s e).1 m < pD (agE s e).1 j ∨ (pD (agE s e).1 m = pD (agE s e).1 j ∧ m ≤ j)) → ∃ h' ch', sm_E PP X 141 73 [(0, .ref M), (1, .int (nI S)), (2, .int (nI e)), (3, .int (nI b)), (4, .int (nI (1000 * e + k)))] [.int (nI v), .int (nI e), .ref (M + 12)] h = sm_E PP X 141 4 [(0, .ref M), (1, .int (nI (S + bsE s e))), (2, .int (nI (e + 1)))] [] h' ∧ IA h' (M + 12) 6 ch' ∧ (∀ j, j ≠ e → ch' j = ch j) ∧ (0 < (agE s e).1.length → ch' e = nI (pN (agE s e).1 (fmI (agE s e).1))) ∧ Fr h h' (M + 12) (M + 12 + 1) := fun v b1 hb1 hm1 => by
      have k1 : Fr h (sm_w h (M + 12) (.inl (.int, 6, .inl (upd ch e (nI v))))) (M + 12) (M + 12 + 1) := Fr.w
      have a1 := a.fr k1 (by omega)
      have x1 := x.fr k1 (by omega)
      obtain ⟨m, m1, m2, m3, m4⟩ := hm1
      obtain ⟨h2, ch2, e2, q2, g2, g3, k2⟩ := ih (k + 1) (by omega) _ (upd ch e (nI v)) b1 a1 x1 w_eq (Or.inr ⟨m, m1, m2, by rw [pk_us]; exact m3, m4⟩)
      refine ⟨h2, ch2, ?_, q2, fun j hj => by rw [g2 j hj, pk_un hj], g3, k1.s k2⟩
      rw [b141_73, stO i12 (show e < 6 by omega) (by omega)]
      simp only [fO a1, sm_gI_s, sm_gR_s, sm_gJ_s, sm_cR_s, sm_al_s, sm_sw_s, sm_tl1, sm_tl0, sm_ap0, sm_ap1, List.getElem?_cons_zero, List.getElem?_cons_succ, nk10, nk11, if_true, eq_self, x1.l8 he h6 hk2, b141_96, nI_add]
      by_cases hlt : pD (agE s e).1 k < b
      · rw [if_pos hlt] at hb1
        rw [if_neg (nI_ge hlt (by omega)), ← hb1]
        exact e2
      · rw [if_neg hlt] at hb1
        rw [if_pos (nI_le (by omega) (by omega)), ← hb1]
        exact e2
    rw [b141_24]
    simp only [fO a, sm_gI_s, sm_gR_s, sm_gJ_s, sm_cR_s, sm_al_s, sm_sw_s, sm_tl1, sm_tl0, sm_ap0, sm_ap1, List.getElem?_cons_zero, List.getElem?_cons_succ, nk10, nk11, if_true, eq_self, x.l9 he h6, pk_mul, nI_add, x.l8 he h6 hk2, x.l7 he h6 hk2]
    rw [if_neg (nI_ge (by omega) (by omega))]
    by_cases hlt : pD (agE s e).1 k < b
    · rw [if_neg (nI_ge hlt (by omega))]
      refine go (pN (agE s e).1 k) _ rfl ⟨k, by omega, by rw [if_pos hlt], rfl, fun j hj => ?_⟩
      by_cases e0 : j = k
      · rw [e0]; exact Or.inr ⟨rfl, Nat.le_refl _⟩
      · rcases hm with ⟨h1, h2⟩ | ⟨m, h1, h2, h3, h4⟩
        · omega
        · have := h4 j (by omega)
          omega
    · rw [if_pos (nI_le (by omega) (by omega)), aO i12, ldO (show e < 6 by omega) (by omega)]
      rcases hm with ⟨h1, h2⟩ | ⟨m, h1, h2, h3, h4⟩
      · omega
      · rw [h3]
        refine go (pN (agE s e).1 m) _ rfl ⟨m, by omega, by rw [if_neg hlt]; exact h2, rfl, fun j hj => ?_⟩
        by_cases e0 : j = k
        · rw [e0]; omega
        · exact h4 j (by omega)
def frS (s : Sh) : Nat → Nat → Nat → Nat
  | 0, _, a => a
  | r + 1, i, a => frS s r (i + 1) (a + bsE s i)
theorem frS_ok {s : Sh} : ∀ d e a : Nat, e + d = s.1.length → (∀ j, j < s.1.length → ¬ (agE s j).1.length = 0) → frS s d e a = sumF s d e a := by
  intro d
  induction d with
  | zero => intro e a _ _; rfl
  | succ d ih =>
    intro e a he h
    unfold frS sumF
    have : bsE s e = pD (agE s e).1 (fmI (agE s e).1) := by unfold bsE; rw [if_neg (h e (by omega))]
    rw [this]
    exact ih (e + 1) _ (by omega) h
theorem frS_ge {s : Sh} : ∀ d e a : Nat, a ≤ frS s d e a := by
  intro d
  induction d with
  | zero => intro e a; exact Nat.le_refl _
  | succ d ih =>
    intro e a
    have := ih (e + 1) (a + bsE s e)
    unfold frS
    omega
theorem frS_alt {s : Sh} : ∀ d e a j : Nat, e + d = s.1.length → e ≤ j → j < s.1.length → (agE s j).1.length = 0 → 100000 ≤ frS s d e a := by
  intro d
  induction d with
  | zero => intro e a j _ _ _ _; omega
  | succ d ih =>
    intro e a j he h1 h2 h3
    unfold frS
    by_cases e0 : j = e
    · have h4 := frS_ge (s := s) d (e + 1) (a + bsE s e)
      have : bsE s e = 100000 := by unfold bsE; rw [if_pos (e0 ▸ h3)]
      omega
    · exact ih (e + 1) _ j (by omega) (by omega) h2 h3
theorem bsE_le {s : Sh} (ok : agOk s) {e : Nat} (he : e < s.1.length) : bsE s e ≤ 100000 := by
  unfold bsE
  split
  · exact Nat.le_refl _
  · have := (ok e he _ (fm_ok (by omega)).2.1).2
    omega
theorem m141_loop {X : smX} {M : Nat} {st : St} {f g c : Nat → Int32} : ∀ (d e S : Nat), e + d = st.2.1.1.length → S ≤ 100000 * e → ∀ (h : smH) (ch : Nat → Int32), RepM h M st → FnM h M st.2.1 f g c → IA h (M + 12) 6 ch → (∀ j, j < e → 0 < (agE st.2.1 j).1.length → ch j = nI (pN (agE st.2.1 j).1 (fmI (agE st.2.1 j).1))) → ∃ h' ch', sm_E PP X 141 4 [(0, .ref M), (1, .int (nI S)), (2, .int (nI e))] [] h = some (some (.int (if frS st.2.1 d e S < 100000 then nI (frS st.2.1 d e S) else -nI 9)), h') ∧ RepM h' M st ∧ IA h' (M + 12) 6 ch' ∧ (∀ j, j < st.2.1.1.length → 0 < (agE st.2.1 j).1.length → ch' j = nI (pN (agE st.2.1 j).1 (fmI (agE st.2.1 j).1))) ∧ Fr h h' M (M + 16) := by
  intro d
  induction d with
  | zero =>
    intro e S he hS h ch r x i12 hc
    obtain ⟨⟨q, a⟩, -, rn, -⟩ := id r
    have h6 := r.h6
    refine ⟨h, ch, ?_, r, i12, fun j hj => hc j (by omega), Fr.rf⟩
    rw [b141_4]
    simp only [fO a, sm_gI_s, sm_gR_s, sm_gJ_s, sm_cR_s, sm_al_s, sm_sw_s, sm_tl1, sm_tl0, sm_ap0, sm_ap1, List.getElem?_cons_zero, List.getElem?_cons_succ, nk10, nk11, if_true, eq_self, rn.l0, b141_125]
    rw [if_pos (nI_le (by omega) (by omega))]
    unfold frS
    by_cases h1 : S < 100000
    · rw [if_pos (nI_lt h1 (by omega)), if_pos h1]
    · rw [if_neg (nI_nlt (by omega) (by omega)), if_neg h1]
  | succ d ih =>
    intro e S he hS h ch r x i12 hc
    obtain ⟨⟨q, a⟩, -, rn, -⟩ := id r
    have h6 := r.h6
    have ok := r.ok
    have he2 : e < st.2.1.1.length := by omega
    obtain ⟨h1, ch1, e1, q1, g1, g2, k1⟩ := m141_in (X := X) (S := S) he2 h6 (fun k hk => (ok e he2 k hk).2) (by omega) (agE st.2.1 e).1.length 0 (by omega) h ch 100000 a x i12 (Or.inl ⟨rfl, rfl⟩)
    have hbs := bsE_le ok he2
    obtain ⟨h2, ch2, e2, r2, q2, g3, k2⟩ := ih (e + 1) (S + bsE st.2.1 e) (by omega) (by omega) h1 ch1 (r.cell k1 i12 q1 (by omega)) (x.fr k1 (by omega)) q1 (fun j hj hp => by
      by_cases e0 : j = e
      · rw [e0] at hp ⊢; exact g2 hp
      · rw [g1 j e0]; exact hc j (by omega) hp)
    refine ⟨h2, ch2, ?_, r2, q2, g3, (k1.mono (by omega) (by omega)).s k2⟩
    rw [Nat.add_zero] at e1
    rw [b141_4]
    simp only [fO a, sm_gI_s, sm_gR_s, sm_gJ_s, sm_cR_s, sm_al_s, sm_sw_s, sm_tl1, sm_tl0, sm_ap0, sm_ap1, List.getElem?_cons_zero, List.getElem?_cons_succ, nk10, nk11, if_true, eq_self, rn.l0, pk_mul]
    rw [if_neg (nI_ge he2 (by omega)), e1, e2]
    rfl
/-- findFree -/
theorem m141 {X : smX} {h : smH} {M : Nat} {st : St} {f g c : Nat → Int32} (r : RepM h M st) (x : FnM h M st.2.1 f g c) (hT : st.2.1.2.2 = none) : ∃ h' ch', sm_C PP X 141 [.ref M] h = some (some (.int (oI (leastD st.2.1))), h') ∧ RepM h' M st ∧ IA h' (M + 12) 6 ch' ∧ (∀ v, leastD st.2.1 = some v → ∀ j, j < st.2.1.1.length → ch' j = nI (lnE st.2.1 j)) ∧ Fr h h' M (M + 16) := by
  obtain ⟨-, -, -, -, -, -, -, -, -, -, -, ⟨ch, i12⟩, -⟩ := id r
  obtain ⟨h1, ch1, e1, r1, q1, g1, k1⟩ := m141_loop (X := X) st.2.1.1.length 0 0 (by omega) (by omega) h ch r x i12 (fun j hj => absurd hj (Nat.not_lt_zero j))
  refine ⟨h1, ch1, ?_, r1, q1, fun v hv j hj => ?_, k1⟩
  · rw [c141, b141_0, e1]
    unfold leastD
    by_cases hz : alt st.2.1 st.2.1.1.length 0 0 = 0
    · have h0 := alt_0 _ _ _ hz
      have e2 := frS_ok (s := st.2.1) st.2.1.1.length 0 0 (by omega) (fun j hj q => by have := h0 j (by omega) (by omega); omega)
      have e3 := sumF_le r.ok (fun j hj => h0 j (by omega) (by omega)) st.2.1.1.length 0 0 (by omega)
      have h6 := r.h6
      rw [if_pos hz, hT, e2, if_pos (by omega)]
      rfl
    · rw [if_neg hz]
      have hz2 := hz
      rw [alt_iff, Classical.not_not] at hz2
      obtain ⟨j, j1, j2⟩ := hz2
      have := frS_alt (s := st.2.1) st.2.1.1.length 0 0 j (by omega) (by omega) j1 j2
      rw [if_neg (by omega)]
      rfl
  · have hz : alt st.2.1 st.2.1.1.length 0 0 = 0 := by
      unfold leastD at hv
      split at hv
      · assumption
      · cases hv
    rw [g1 j hj (alt_0 _ _ _ hz j (by omega) (by omega))]
    unfold lnE
    rw [hT]
