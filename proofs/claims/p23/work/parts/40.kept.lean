/-! IMAGES, count: class WornSums -/
def opKeep (st : St) (x : Int32) : Int32 × St := if vN 2 x = true then (nI st.2.1.1.length, (st.1, st.2.1, st.2.2.1, uP st.2.2.2 x.toInt.toNat (some st.2.1))) else (-nI 1, st)
theorem im_out {X : smX} {h : smH} {B : Nat} {x : Int32} (m : Nat) (hx : ¬ (0 ≤ x.toInt ∧ x.toInt < 2)) (e1 : x < 0 → sm_C PP X m [.ref B, .int x] h = some (some (.int (-nI 1)), h)) (e2 : ¬ x < 0 → ¬ x < nI 2 → sm_C PP X m [.ref B, .int x] h = some (some (.int (-nI 1)), h)) : sm_C PP X m [.ref B, .int x] h = some (some (.int (-nI 1)), h) := by
  by_cases h1 : x < 0
  · exact e1 h1
  · exact e2 h1 (by rw [i_lt, i_0] at h1; rw [i_lt, nI_toInt (show 2 < 2 ^ 31 by omega)]; omega)
theorem m102 {X : smX} {h : smH} {B : Nat} {st : St} (r : RepC h B st) (x : Int32) : ∃ h', sm_C PP X 102 [.ref B, .int x] h = some (some (.int (opKeep st x).1), h') ∧ RepC h' B (opKeep st x).2 ∧ Fr h h' B (B + 338) := by
  obtain ⟨rc, K, L, rf⟩ := id r
  have h6 := rc.2.2.1.2.1.1
  unfold opKeep
  rcases e_cs 2 x with ⟨i, hi, h31, rfl⟩ | hv
  · simp only [vN_t hi h31, if_true, nTN h31]
    obtain ⟨⟨ty, g, b1, b2, b3⟩, ⟨f, d1, d2⟩, d3⟩ := rc.2.2.2.2.1
    obtain ⟨s, s1, s2⟩ := d3 i hi
    obtain ⟨h1, e1, q1, k1⟩ := m40 (X := X) (by omega) s1 rc.2.2.1
    have a1 : h1.1 B = _ := (k1.2 _ (by omega)).trans rc.1
    have d4 : BA h1 (B + 303) 2 f := d1.fr k1 (by omega)
    have k2 : Fr h1 (sm_w h1 (B + 303) (.inl (.boolean, 2, .inl (upd f i (bI true))))) (B + 303) (B + 304) := Fr.w
    have k3 : Fr h (sm_w h1 (B + 303) (.inl (.boolean, 2, .inl (upd f i (bI true))))) (B + 249) (B + 304) := (k1.mono (by omega) (by omega)).s (k2.mono (by omega) (by omega))
    have a2 : (sm_w h1 (B + 303) (.inl (.boolean, 2, .inl (upd f i (bI true))))).1 B = _ := (k3.2 _ (by omega)).trans rc.1
    have s3 := rc.2.2.1.fr k3 (by omega)
    refine ⟨sm_w h1 (B + 303) (.inl (.boolean, 2, .inl (upd f i (bI true)))), ?_, ⟨⟨a2, rc.2.1.fr k3 (by omega), s3, rc.2.2.2.1.fr k3 (by omega), ⟨⟨ty, g, b1, (k3.2 _ (by omega)).trans b2, b3⟩, ⟨upd f i (bI true), w_eq, fun j hj => ?_⟩, fun j hj => ?_⟩, rc.2.2.2.2.2.fr k3 (by omega)⟩, K, L, rf.fr k3 (by omega)⟩, k3.mono (by omega) (by omega)⟩
    · rw [c102, b102_0, if_neg (nI_pos h31), if_pos (nI_lt hi (by omega))]
      simp only [fO rc.1, sm_gI_s, sm_gR_s, sm_gJ_s, sm_cR_s, sm_al_s, sm_sw_s, sm_tl1, sm_tl0, sm_ap0, sm_ap1, List.getElem?_cons_zero, List.getElem?_cons_succ, nk10, nk11, if_true, eq_self]
      rw [aO b2, ldR b1 hi (by omega) (b3 i hi), vO s1.1.1, e1]
      simp only [sm_gI_s, sm_gR_s, sm_gJ_s, sm_cR_s, sm_al_s, sm_sw_s, sm_tl1, sm_tl0, sm_ap0, sm_ap1, List.getElem?_cons_zero, List.getElem?_cons_succ, nk10, nk11, if_true, eq_self, b102_24, fO a1, nb1]
      rw [stO d4 hi (by omega)]
      simp only [fO a2, sm_gI_s, sm_gR_s, sm_gJ_s, sm_cR_s, sm_al_s, sm_sw_s, sm_tl1, sm_tl0, sm_ap0, sm_ap1, List.getElem?_cons_zero, List.getElem?_cons_succ, nk10, nk11, if_true, eq_self, fO s3.1.1]
    · show _ = bI (uP st.2.2.2 i (some st.2.1) j).isSome
      by_cases e : j = i
      · rw [e, pk_us, uP_eq]; rfl
      · rw [pk_un e, uP_ne e]; exact d2 j hj
    · show ∃ s, SheetAt _ _ s ∧ ∀ s2, uP st.2.2.2 i (some st.2.1) j = some s2 → s = s2
      by_cases e : j = i
      · rw [e, uP_eq]
        exact ⟨st.2.1, q1.fr k2 (by omega), fun s2 h2 => Option.some.inj h2⟩
      · rw [uP_ne e]
        obtain ⟨t, t1, t2⟩ := d3 j hj
        exact ⟨t, (t1.fr k1 (by omega)).fr k2 (by omega), t2⟩
  · rw [if_neg (show ¬ vN 2 x = true by rw [vN_f hv]; decide)]
    refine ⟨h, im_out 102 hv (fun q => ?_) (fun q1 q2 => ?_), r, Fr.rf⟩
    · rw [c102, b102_0, if_pos q, b102_9]
    · rw [c102, b102_0, if_neg q1, if_neg q2, b102_9]
def opBack (st : St) (x : Int32) : Int32 × St := if vN 2 x = true then (match st.2.2.2 x.toInt.toNat with
  | none => (-nI 2, st)
  | some s => (nI s.1.length, (st.1, s, [], st.2.2.2))) else (-nI 1, st)
theorem HistAt.clr {h : smH} {H : Nat} {p : List Sh} (r : HistAt h H p) : ∃ nx, h.1 H = some (.inr (2, [.ref (H + 1), .int (nI nx), .int (nI p.length)])) ∧ HistAt (sm_w h H (.inr (2, [.ref (H + 1), .int (nI nx), .int (nI 0)]))) H [] := by
  obtain ⟨nx, V, a, ⟨ty, g, b1, b2, b3⟩, c, d, e, i⟩ := r
  exact ⟨nx, a, nx, V, w_eq, ⟨ty, g, b1, (w_ne (by omega)).trans b2, b3⟩, c, Nat.zero_le _, fun j hj => (e j hj).fr Fr.w (by omega), fun j hj => absurd hj (Nat.not_lt_zero j)⟩
theorem m103 {X : smX} {h : smH} {B : Nat} {st : St} (r : RepC h B st) (x : Int32) : ∃ h', sm_C PP X 103 [.ref B, .int x] h = some (some (.int (opBack st x).1), h') ∧ RepC h' B (opBack st x).2 ∧ Fr h h' B (B + 338) := by
  obtain ⟨rc, K, L, rf⟩ := id r
  unfold opBack
  rcases e_cs 2 x with ⟨i, hi, h31, rfl⟩ | hv
  · simp only [vN_t hi h31, if_true, nTN h31]
    obtain ⟨⟨ty, g, b1, b2, b3⟩, ⟨f, d1, d2⟩, d3⟩ := id rc.2.2.2.2.1
    obtain ⟨s, s1, s2⟩ := d3 i hi
    have di := d2 i hi
    rw [c103, b103_0, if_neg (nI_pos h31), if_pos (nI_lt hi (by omega))]
    simp only [fO rc.1, sm_gI_s, sm_gR_s, sm_gJ_s, sm_cR_s, sm_al_s, sm_sw_s, sm_tl1, sm_tl0, sm_ap0, sm_ap1, List.getElem?_cons_zero, List.getElem?_cons_succ, nk10, nk11, if_true, eq_self, vO rc.2.2.1.1.1]
    rw [aO d1, ldO hi (by omega), di, aO b2, ldR b1 hi (by omega) (b3 i hi)]
    cases ei : st.2.2.2 i with
    | none =>
      rw [if_pos (show bI (Option.isSome (none : Option Sh)) = 0 from rfl)]
      exact ⟨h, rfl, r, Fr.rf⟩
    | some t =>
      rw [if_neg (show ¬ bI (Option.isSome (some t)) = 0 by show ¬ bI true = 0; decide)]
      obtain rfl := s2 t ei
      obtain ⟨h1, e1, q1, k1⟩ := m40 (X := X) (by omega) rc.2.2.1 s1
      have c1 := rc.sheet (k1.mono (by omega) (by omega)) q1
      obtain ⟨nx, n1, n2⟩ := c1.2.2.2.1.clr
      have k2 : Fr h1 (sm_w h1 (B + 30) (.inr (2, [.ref (B + 30 + 1), .int (nI nx), .int (nI 0)]))) (B + 30) (B + 31) := Fr.w
      have c2 := c1.hist (k2.mono (by omega) (by omega)) n2
      have f2 := (rf.fr k1 (by omega)).fr k2 (by omega)
      obtain ⟨h3, e3, g3, k3⟩ := m42A (X := X) f2 s
      have c3 := c2.out k3 (by omega)
      obtain ⟨ld2, W2, a2, -⟩ := f2
      rw [e1]
      simp only [sm_gI_s, sm_gR_s, sm_gJ_s, sm_cR_s, sm_al_s, sm_sw_s, sm_tl1, sm_tl0, sm_ap0, sm_ap1, List.getElem?_cons_zero, List.getElem?_cons_succ, nk10, nk11, if_true, eq_self, b103_36, fO c1.1]
      rw [pO n1 (by show 2 < 3; omega)]
      simp only [List.set, fO c2.1, sm_gI_s, sm_gR_s, sm_gJ_s, sm_cR_s, sm_al_s, sm_sw_s, sm_tl1, sm_tl0, sm_ap0, sm_ap1, List.getElem?_cons_zero, List.getElem?_cons_succ, nk10, nk11, if_true, eq_self]
      rw [vO a2.1.1, e3]
      simp only [sm_gI_s, sm_gR_s, sm_gJ_s, sm_cR_s, sm_al_s, sm_sw_s, sm_tl1, sm_tl0, sm_ap0, sm_ap1, List.getElem?_cons_zero, List.getElem?_cons_succ, nk10, nk11, if_true, eq_self, b103_51, fO c3.1, fO c3.2.2.1.1.1]
      exact ⟨h3, rfl, ⟨c3, false, false, g3⟩, ((k1.mono (by omega) (by omega)).s (k2.mono (by omega) (by omega))).s (k3.mono (by omega) (by omega))⟩
  · rw [if_neg (show ¬ vN 2 x = true by rw [vN_f hv]; decide)]
    refine ⟨h, im_out 103 hv (fun q => ?_) (fun q1 q2 => ?_), r, Fr.rf⟩
    · rw [c103, b103_0, if_pos q, b103_9]
    · rw [c103, b103_0, if_neg q1, if_neg q2, b103_9]
def qCount (st : St) (y : Int32) : Int32 := if y = nI 0 then nI st.2.1.1.length else if y = nI 1 then nI (alt st.2.1 st.2.1.1.length 0 0) else if y = nI 2 then nI st.2.1.2.1 else if y = nI 3 then oI st.2.1.2.2 else if y = nI 4 then nI (wornA st.2.1 st.2.1.1.length 0 0) else if y = nI 5 then nI st.1.length else if y = nI 6 then nI st.2.2.1.length else -nI 1
theorem m105 {X : smX} {h : smH} {B : Nat} {st : St} (r : RepC h B st) (y : Int32) : ∃ h', sm_C PP X 105 [.ref B, .int y] h = some (some (.int (qCount st y)), h') ∧ RepC h' B st ∧ Fr h h' B (B + 338) := by
  have rc := r.1
  have h6 := rc.2.2.1.2.1.1
  unfold qCount
  rw [c105, b105_0, b105_1]
  by_cases h0 : y = nI 0
  · subst h0
    rw [if_neg (by decide), if_pos rfl]
    show ∃ h', sm_E PP X 105 44 [(0, .ref B)] [] h = _ ∧ _
    simp only [b105_44, fO rc.1, sm_gI_s, sm_gR_s, sm_gJ_s, sm_cR_s, sm_al_s, sm_sw_s, sm_tl1, sm_tl0, sm_ap0, sm_ap1, List.getElem?_cons_zero, List.getElem?_cons_succ, nk10, nk11, if_true, eq_self, fO rc.2.2.1.1.1]
    exact ⟨h, rfl, r, Fr.rf⟩
  · rw [if_neg h0]
    by_cases h1 : y = nI 1
    · subst h1
      rw [if_neg (by decide), if_pos rfl]
      show ∃ h', sm_E PP X 105 52 [(0, .ref B)] [] h = _ ∧ _
      obtain ⟨h1', L, e1, c1, f1, k1⟩ := m68R (X := X) r
      obtain ⟨-, K0, L0, ld, W, a, -⟩ := r
      obtain ⟨ld1, W1, a1, -⟩ := id f1
      simp only [b105_52, fO rc.1, sm_gI_s, sm_gR_s, sm_gJ_s, sm_cR_s, sm_al_s, sm_sw_s, sm_tl1, sm_tl0, sm_ap0, sm_ap1, List.getElem?_cons_zero, List.getElem?_cons_succ, nk10, nk11, if_true, eq_self, vO a.1.1, e1, b105_67, fO c1.1, fO c1.2.2.1.1.1, vO a1.1.1, m80 a1 h6, b105_81]
      exact ⟨h1', rfl, ⟨c1, true, L, f1⟩, k1.mono (by omega) (by omega)⟩
    · rw [if_neg h1]
      by_cases h2 : y = nI 2
      · subst h2
        rw [if_neg (by decide), if_pos rfl]
        show ∃ h', sm_E PP X 105 82 [(0, .ref B)] [] h = _ ∧ _
        simp only [b105_82, fO rc.1, sm_gI_s, sm_gR_s, sm_gJ_s, sm_cR_s, sm_al_s, sm_sw_s, sm_tl1, sm_tl0, sm_ap0, sm_ap1, List.getElem?_cons_zero, List.getElem?_cons_succ, nk10, nk11, if_true, eq_self, fO rc.2.2.1.1.1]
        exact ⟨h, rfl, r, Fr.rf⟩
      · rw [if_neg h2]
        by_cases h3 : y = nI 3
        · subst h3
          rw [if_neg (by decide), if_pos rfl]
          show ∃ h', sm_E PP X 105 90 [(0, .ref B)] [] h = _ ∧ _
          simp only [b105_90, fO rc.1, sm_gI_s, sm_gR_s, sm_gJ_s, sm_cR_s, sm_al_s, sm_sw_s, sm_tl1, sm_tl0, sm_ap0, sm_ap1, List.getElem?_cons_zero, List.getElem?_cons_succ, nk10, nk11, if_true, eq_self, fO rc.2.2.1.1.1]
          exact ⟨h, rfl, r, Fr.rf⟩
        · rw [if_neg h3]
          by_cases h4 : y = nI 4
          · subst h4
            rw [if_neg (by decide), if_pos rfl]
            show ∃ h', sm_E PP X 105 98 [(0, .ref B)] [] h = _ ∧ _
            simp only [b105_98, fO rc.1, sm_gI_s, sm_gR_s, sm_gJ_s, sm_cR_s, sm_al_s, sm_sw_s, sm_tl1, sm_tl0, sm_ap0, sm_ap1, List.getElem?_cons_zero, List.getElem?_cons_succ, nk10, nk11, if_true, eq_self, vO rc.2.2.1.1.1, m104 rc.2.2.1, b105_105]
            exact ⟨h, rfl, r, Fr.rf⟩
          · rw [if_neg h4]
            by_cases h5 : y = nI 5
            · subst h5
              rw [if_neg (by decide), if_pos rfl]
              show ∃ h', sm_E PP X 105 106 [(0, .ref B)] [] h = _ ∧ _
              simp only [b105_106, fO rc.1, sm_gI_s, sm_gR_s, sm_gJ_s, sm_cR_s, sm_al_s, sm_sw_s, sm_tl1, sm_tl0, sm_ap0, sm_ap1, List.getElem?_cons_zero, List.getElem?_cons_succ, nk10, nk11, if_true, eq_self, fO rc.2.1.1]
              exact ⟨h, rfl, r, Fr.rf⟩
            · rw [if_neg h5]
              by_cases h7 : y = nI 6
              · subst h7
                rw [if_neg (by decide), if_pos rfl]
                show ∃ h', sm_E PP X 105 114 [(0, .ref B)] [] h = _ ∧ _
                simp only [b105_114, fO rc.1, sm_gI_s, sm_gR_s, sm_gJ_s, sm_cR_s, sm_al_s, sm_sw_s, sm_tl1, sm_tl0, sm_ap0, sm_ap1, List.getElem?_cons_zero, List.getElem?_cons_succ, nk10, nk11, if_true, eq_self, fO rc.2.2.2.1.choose_spec.choose_spec.1]
                exact ⟨h, rfl, r, Fr.rf⟩
              · rw [if_neg h7, if_pos (by
                  simp only [i_eq, nI_toInt (show 0 < 2 ^ 31 by omega), nI_toInt (show 1 < 2 ^ 31 by omega), nI_toInt (show 2 < 2 ^ 31 by omega), nI_toInt (show 3 < 2 ^ 31 by omega), nI_toInt (show 4 < 2 ^ 31 by omega), nI_toInt (show 5 < 2 ^ 31 by omega), nI_toInt (show 6 < 2 ^ 31 by omega)] at h0 h1 h2 h3 h4 h5 h7
                  omega), b105_122]
                exact ⟨h, rfl, r, Fr.rf⟩
