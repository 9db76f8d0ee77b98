/-! what is told, what is done: class WornSums -/
def chg (st : St) (s : Sh) : St := (st.1, s, (st.2.1 :: st.2.2.1).take 8, st.2.2.2)
theorem i_nat {x : Int32} (h : 0 ≤ x.toInt) : ∃ k, k < 2 ^ 31 ∧ x = nI k := by
  rcases i_cases x with q | q
  · omega
  · exact q
def opType (st : St) (x : Int32) : Int32 × St := if 0 ≤ x.toInt ∧ x.toInt ≤ 255 then (if st.1.length < 40 then (nI (st.1.length + 1), (st.1 ++ [x.toInt.toNat], st.2)) else (-nI 3, st)) else (-nI 1, st)
theorem m28 {X : smX} {h : smH} {B : Nat} {st : St} (r : RepC h B st) (x : Int32) : ∃ h', sm_C PP X 28 [.ref B, .int x] h = some (some (.int (opType st x).1), h') ∧ RepC h' B (opType st x).2 ∧ Fr h h' B (B + 338) := by
  obtain ⟨rc, K, L, rf⟩ := id r
  unfold opType
  by_cases hv : 0 ≤ x.toInt ∧ x.toInt ≤ 255
  · obtain ⟨c, hc, rfl⟩ := i_nat hv.1
    rw [nI_toInt hc] at hv
    simp only [nI_toInt hc, Int.toNat_natCast]
    rw [if_pos hv]
    obtain ⟨h1, e1, q1, k1⟩ := m27 (X := X) rc.2.1 (show c < 256 by omega)
    have rc1 := rc.text (k1.mono (by omega) (by omega)) q1
    have hr : RepC h1 B (if st.1.length < 40 then st.1 ++ [c] else st.1, st.2) := ⟨rc1, K, L, rf.fr k1 (by omega)⟩
    rw [c28, b28_0, if_neg (nI_pos hc), if_pos (nI_le (by omega) (by omega)), pk_char, pk_tn (by omega), Nat.mod_eq_of_lt (by omega)]
    simp only [fO rc.1, sm_gI_s, sm_gR_s, sm_gJ_s, sm_cR_s, sm_al_s, sm_sw_s, sm_tl1, sm_tl0, sm_ap0, sm_ap1, List.getElem?_cons_zero, List.getElem?_cons_succ, nk10, nk11, if_true, eq_self, vO rc.2.1.1, e1, b28_22, fO rc1.1, fO rc1.2.1.1, b28_37, bI_0]
    by_cases h1 : st.1.length < 40
    · simp only [if_pos h1] at hr ⊢
      rw [show decide (st.1.length < 40) = true by simp; omega, if_neg (show ¬ (true = false) by decide)]
      refine ⟨_, ?_, hr, k1.mono (by omega) (by omega)⟩
      rw [List.length_append]
      rfl
    · simp only [if_neg h1] at hr ⊢
      rw [show decide (st.1.length < 40) = false by simp; omega, if_pos rfl]
      exact ⟨_, rfl, hr, k1.mono (by omega) (by omega)⟩
  · rw [if_neg hv]
    refine ⟨h, ?_, r, Fr.rf⟩
    rw [c28, b28_0]
    simp only [i_lt, i_le, i_0, nI_toInt (show 255 < 2 ^ 31 by omega), b28_11, b28_37]
    split
    · rfl
    · rw [if_neg (by omega)]
def opClear (st : St) : Int32 × St := (nI st.1.length, ([], st.2))
theorem TextAt.clr {h : smH} {t : Nat} {ws : List Nat} (r : TextAt h t ws) : TextAt (sm_w h t (.inr (6, [.ref (t + 1), .int (nI 0)]))) t [] := by
  obtain ⟨a, b, f, c, d, e⟩ := r
  exact ⟨w_eq, ⟨by show 0 ≤ 40; omega, fun k => by show 0 < 256; omega⟩, f, (w_ne (by omega)).trans c, d, fun k hk => absurd hk (Nat.not_lt_zero k)⟩
theorem m29 {X : smX} {h : smH} {B : Nat} {st : St} (r : RepC h B st) : ∃ h', sm_C PP X 29 [.ref B] h = some (some (.int (opClear st).1), h') ∧ RepC h' B (opClear st).2 ∧ Fr h h' B (B + 338) := by
  obtain ⟨rc, K, L, rf⟩ := r
  have k1 : Fr h (sm_w h (B + 1) (.inr (6, [.ref (B + 1 + 1), .int (nI 0)]))) (B + 1) (B + 2) := Fr.w
  refine ⟨_, ?_, ⟨rc.text (k1.mono (by omega) (by omega)) rc.2.1.clr, K, L, rf.fr k1 (by omega)⟩, k1.mono (by omega) (by omega)⟩
  simp only [c29, b29_0, fO rc.1, sm_gI_s, sm_gR_s, sm_gJ_s, sm_cR_s, sm_al_s, sm_sw_s, sm_tl1, sm_tl0, sm_ap0, sm_ap1, List.getElem?_cons_zero, List.getElem?_cons_succ, nk10, nk11, if_true, eq_self, fO rc.2.1.1]
  rw [pO rc.2.1.1 (by show 1 < 2; omega)]
  rfl
theorem flt_f {ws : List Nat} : ∀ (r k q : Nat), k + r = ws.length → q < k → k - 1 - q ≤ 3 → flt ws r k (some q) = none → ws.length - (q + 1) ≤ 3 ∧ q + 1 < ws.length ∧ ∀ j, k ≤ j → j < ws.length → nA ws j = 63 ∨ (48 ≤ nA ws j ∧ nA ws j ≤ 57) := by
  intro r
  induction r with
  | zero =>
    intro k q hk hq h3 h
    unfold flt at h
    split at h
    · cases h
    · exact ⟨by omega, by omega, fun j h1 h2 => by omega⟩
  | succ r ih =>
    intro k q hk hq h3 h
    unfold flt at h
    cases e : okF (k - q) (nA ws k) with
    | false => rw [e] at h; cases h
    | true =>
      rw [e] at h
      have e2 := of_decide_eq_true e
      rw [if_neg (by omega)] at h
      obtain ⟨a, b, c⟩ := ih (k + 1) q (by omega) (by omega) (by omega) h
      refine ⟨a, b, fun j h1 h2 => ?_⟩
      by_cases h4 : j = k
      · rw [h4]; exact e2.2
      · exact c j (by omega) h2
theorem flt_w {ws : List Nat} : ∀ (r k : Nat), k + r = ws.length → k ≤ 31 → flt ws r k none = none → ∃ q, k ≤ q ∧ q ≤ 31 ∧ 0 < q ∧ nA ws q = 61 ∧ (∀ j, k ≤ j → j < q → nA ws j ≠ 61) ∧ ws.length - (q + 1) ≤ 3 ∧ q + 1 < ws.length ∧ ∀ j, q < j → j < ws.length → nA ws j = 63 ∨ (48 ≤ nA ws j ∧ nA ws j ≤ 57) := by
  intro r
  induction r with
  | zero =>
    intro k hk h31 h
    unfold flt at h
    cases h
  | succ r ih =>
    intro k hk h31 h
    unfold flt at h
    cases e : okW ws k with
    | false => rw [e] at h; cases h
    | true =>
      rw [e] at h
      have h : flt ws r (k + 1) (if nA ws k = 61 then some k else none) = none := h
      unfold okW at e
      by_cases h61 : nA ws k = 61
      · rw [if_pos h61] at h e
        have e2 := of_decide_eq_true e
        obtain ⟨a, b, c⟩ := flt_f r (k + 1) k (by omega) (by omega) (by omega) h
        exact ⟨k, by omega, h31, e2, h61, fun j h1 h2 => by omega, a, b, fun j h1 h2 => c j (by omega) h2⟩
      · rw [if_neg h61] at h e
        have hk31 : k < 31 := by
          by_cases h0 : k < 31
          · exact h0
          · rw [if_neg h0] at e; cases e
        obtain ⟨q, q1, q2, q3, q4, q5, q6⟩ := ih (k + 1) (by omega) (by omega) h
        refine ⟨q, by omega, q2, q3, q4, fun j h1 h2 => ?_, q6⟩
        by_cases h4 : j = k
        · rw [h4]; exact h61
        · exact q5 j (by omega) h2
theorem eqp_at {ws : List Nat} : ∀ (r k q : Nat), k ≤ q → q < k + r → nA ws q = 61 → (∀ j, k ≤ j → j < q → nA ws j ≠ 61) → eqp ws r k = q := by
  intro r
  induction r with
  | zero => intro k q h1 h2; omega
  | succ r ih =>
    intro k q h1 h2 h3 h4
    unfold eqp
    by_cases e : k = q
    · rw [if_pos (by rw [e]; exact h3)]; exact e
    · rw [if_neg (h4 k (by omega) (by omega))]
      exact ih (k + 1) q (by omega) (by omega) h3 (fun j h5 h6 => h4 j (by omega) h6)
/-- a text that tells an ENTRY -/
theorem flt_ok {ws : List Nat} (h : flt ws ws.length 0 none = none) : ∃ q, eqp ws ws.length 0 = q ∧ q ≤ 31 ∧ 0 < q ∧ nA ws q = 61 ∧ (∀ j, j < q → nA ws j ≠ 61) ∧ ws.length - (q + 1) ≤ 3 ∧ q + 1 < ws.length ∧ ∀ j, q < j → j < ws.length → nA ws j = 63 ∨ (48 ≤ nA ws j ∧ nA ws j ≤ 57) := by
  obtain ⟨q, q1, q2, q3, q4, q5, q6, q7, q8⟩ := flt_w ws.length 0 (by omega) (by omega) h
  exact ⟨q, eqp_at _ _ _ (by omega) (by omega) q4 q5, q2, q3, q4, fun j hj => q5 j (by omega) hj, q6, q7, q8⟩
def enT (ws : List Nat) : List Nat × List Nat := ((ws.drop 0).take (eqp ws ws.length 0 - 0), (ws.drop (eqp ws ws.length 0 + 1)).take (ws.length - (eqp ws ws.length 0 + 1)))
def opTells (st : St) : Int32 × St := if st.2.1.1.length < 6 then (match flt st.1 st.1.length 0 none with
  | none => (nI st.2.1.1.length, ([], (chg st (st.2.1.1 ++ [enT st.1], st.2.1.2)).2))
  | some k => (-nI 10 - nI k, st)) else (-nI 3, st)
theorem flt_le {ws : List Nat} : ∀ (r k x : Nat) (o : Option Nat), k + r = ws.length → flt ws r k o = some x → x ≤ ws.length := by
  intro r
  induction r with
  | zero =>
    intro k x o hk h
    cases o with
    | none => unfold flt at h; cases h; omega
    | some q =>
      unfold flt at h
      split at h
      · cases h; omega
      · cases h
  | succ r ih =>
    intro k x o hk h
    cases o with
    | none =>
      unfold flt at h
      cases e : okW ws k with
      | false => rw [e] at h; cases h; omega
      | true => rw [e] at h; exact ih (k + 1) x _ (by omega) h
    | some q =>
      unfold flt at h
      cases e : okF (k - q) (nA ws k) with
      | false => rw [e] at h; cases h; omega
      | true => rw [e] at h; exact ih (k + 1) x _ (by omega) h
theorem m47 {X : smX} {h : smH} {B : Nat} {st : St} (r : RepC h B st) : ∃ h', sm_C PP X 47 [.ref B] h = some (some (.int (opTells st).1), h') ∧ RepC h' B (opTells st).2 ∧ Fr h h' B (B + 338) := by
  have rc := r.1
  have h6 := rc.2.2.1.2.1.1
  have h40 := rc.2.1.2.1.1
  unfold opTells
  simp only [c47, b47_0, fO rc.1, sm_gI_s, sm_gR_s, sm_gJ_s, sm_cR_s, sm_al_s, sm_sw_s, sm_tl1, sm_tl0, sm_ap0, sm_ap1, List.getElem?_cons_zero, List.getElem?_cons_succ, nk10, nk11, if_true, eq_self, fO rc.2.2.1.1.1, vO rc.2.1.1, m35 rc.2.1, b47_22]
  by_cases h1 : st.2.1.1.length < 6
  · rw [if_pos (nI_lt h1 (by omega)), if_pos h1]
    cases eF : flt st.1 st.1.length 0 none with
    | some k =>
      have := flt_le _ _ _ _ (by omega) eF
      rw [if_neg (show ¬ oI (some k) = -nI 9 from neg9_ne (by omega))]
      exact ⟨h, rfl, r, Fr.rf⟩
    | none =>
      obtain ⟨q, q1, q2, q3, q4, q5, q6, q7, q8⟩ := flt_ok eF
      rw [if_pos (show oI none = -nI 9 from rfl)]
      obtain ⟨h2, e2, c2, f2, k2⟩ := m43 (X := X) r
      obtain ⟨h3, e3, s3, k3⟩ := m46 (X := X) (Or.inr (show B + 1 + 2 ≤ B + 3 by omega)) c2.2.2.1 c2.2.1 h1 q1 (by show q < st.1.length; omega) q2 q6
      have c3 := c2.sheet (k3.mono (by omega) (by omega)) s3
      have k4 : Fr h3 (sm_w h3 (B + 1) (.inr (6, [.ref (B + 1 + 1), .int (nI 0)]))) (B + 1) (B + 2) := Fr.w
      have c4 := c3.text (k4.mono (by omega) (by omega)) c3.2.1.clr
      have hE : (st.2.1.1 ++ [((st.1.drop 0).take (q - 0), (st.1.drop (q + 1)).take (st.1.length - (q + 1)))], st.2.1.2.1, st.2.1.2.2) = ((st.2.1.1 ++ [enT st.1], st.2.1.2) : Sh) := by
        unfold enT
        rw [q1]
      rw [vO rc.1, e2]
      simp only [sm_gI_s, sm_gR_s, sm_gJ_s, sm_cR_s, sm_al_s, sm_sw_s, sm_tl1, sm_tl0, sm_ap0, sm_ap1, List.getElem?_cons_zero, List.getElem?_cons_succ, nk10, nk11, if_true, eq_self, b47_38, fO c2.1, vO c2.2.2.1.1.1, e3, b47_49, fO c3.1]
      rw [pO c3.2.1.1 (by show 1 < 2; omega)]
      have hlen : (st.2.1.1 ++ [((st.1.drop 0).take (q - 0), (st.1.drop (q + 1)).take (st.1.length - (q + 1)))]).length = st.2.1.1.length + 1 := List.length_append
      have g4 := c4.2.2.1.1.1
      simp only [hlen] at g4
      simp only [List.set, fO c4.1, sm_gI_s, sm_gR_s, sm_gJ_s, sm_cR_s, sm_al_s, sm_sw_s, sm_tl1, sm_tl0, sm_ap0, sm_ap1, List.getElem?_cons_zero, List.getElem?_cons_succ, nk10, nk11, if_true, eq_self]
      simp only [fO g4, sm_gI_s, sm_gR_s, sm_gJ_s, sm_cR_s, sm_al_s, sm_sw_s, sm_tl1, sm_tl0, sm_ap0, sm_ap1, List.getElem?_cons_zero, List.getElem?_cons_succ, nk10, nk11, if_true, eq_self]
      rw [pk_sub (by omega), Nat.add_sub_cancel]
      refine ⟨_, rfl, ⟨?_, false, false, ((f2 _).fr k3 (by omega)).fr k4 (by omega)⟩, (k2.mono (by omega) (by omega)).s ((k3.mono (by omega) (by omega)).s (k4.mono (by omega) (by omega)))⟩
      rw [hE] at c4
      exact c4
  · rw [if_neg (nI_nlt (by omega) (by omega)), if_neg h1]
    exact ⟨h, rfl, r, Fr.rf⟩
def opDrops (st : St) (x : Int32) : Int32 × St := if 0 ≤ x.toInt ∧ x.toInt < st.2.1.1.length then (nI (st.2.1.1.length - 1), chg st (st.2.1.1.eraseIdx x.toInt.toNat, st.2.1.2)) else (-nI 1, st)
theorem m50 {X : smX} {h : smH} {B : Nat} {st : St} (r : RepC h B st) (x : Int32) : ∃ h', sm_C PP X 50 [.ref B, .int x] h = some (some (.int (opDrops st x).1), h') ∧ RepC h' B (opDrops st x).2 ∧ Fr h h' B (B + 338) := by
  have rc := r.1
  have h6 := rc.2.2.1.2.1.1
  unfold opDrops
  simp only [c50, b50_0, fO rc.1, sm_gI_s, sm_gR_s, sm_gJ_s, sm_cR_s, sm_al_s, sm_sw_s, sm_tl1, sm_tl0, sm_ap0, sm_ap1, List.getElem?_cons_zero, List.getElem?_cons_succ, nk10, nk11, if_true, eq_self, vO rc.2.2.1.1.1, m48 rc.2.2.1.1 h6, b50_8]
  by_cases hv : 0 ≤ x.toInt ∧ x.toInt < st.2.1.1.length
  · rw [if_pos hv, if_neg (show ¬ (nI 1 : Int32) = 0 by decide), if_pos hv]
    obtain ⟨e, he, rfl⟩ := i_nat hv.1
    rw [nI_toInt he] at hv ⊢
    rw [Int.toNat_natCast]
    obtain ⟨h2, e2, c2, f2, k2⟩ := m43 (X := X) r
    obtain ⟨h3, e3, s3, k3⟩ := m49 (X := X) c2.2.2.1 (show e < st.2.1.1.length by omega)
    have c3 := c2.sheet (k3.mono (by omega) (by omega)) s3
    have hlen : (st.2.1.1.eraseIdx e).length = st.2.1.1.length - 1 := List.length_eraseIdx_of_lt (by omega)
    have g3 := c3.2.2.1.1.1
    simp only [hlen] at g3
    rw [vO rc.1, e2]
    simp only [sm_gI_s, sm_gR_s, sm_gJ_s, sm_cR_s, sm_al_s, sm_sw_s, sm_tl1, sm_tl0, sm_ap0, sm_ap1, List.getElem?_cons_zero, List.getElem?_cons_succ, nk10, nk11, if_true, eq_self, b50_17, fO c2.1, vO c2.2.2.1.1.1, e3, b50_25, fO c3.1, fO g3]
    exact ⟨_, rfl, ⟨c3, false, false, (f2 _).fr k3 (by omega)⟩, (k2.mono (by omega) (by omega)).s (k3.mono (by omega) (by omega))⟩
  · rw [if_neg hv, if_pos (show (nI 0 : Int32) = 0 from rfl), if_neg hv]
    exact ⟨h, rfl, r, Fr.rf⟩
