/-! findSum of the reference -/
def lM (o : Option Nat) : Nat := match o with
  | none => 100000
  | some v => v
def Lc (f g : Nat → Int32) (e x : Nat) : Int32 := if e < 3 then f (5995 * e + x) else g (5995 * (e - 3) + x)
/-- rows e0 and on hold the least DOUBT of all sums up to t -/
def LsM (h : smH) (M : Nat) (s : Sh) (t e0 : Nat) (f g : Nat → Int32) : Prop := IA h (M + 10) 17985 f ∧ IA h (M + 11) 17985 g ∧ ∀ e, e0 ≤ e → e < s.1.length → ∀ x, x ≤ t → Lc f g e x = nI (lM (lsq s (s.1.length - e) e x))
theorem m142 {X : smX} {h : smH} {M d0 l0 q0 e x : Nat} {s : Sh} {f g : Nat → Int32} {v : Int32} (a : MObj h M d0 l0 q0) (rn : MNow h M s) (h6 : s.1.length ≤ 6) (i10 : IA h (M + 10) 17985 f) (i11 : IA h (M + 11) 17985 g) (he : e ≤ s.1.length) (hx : x ≤ 5994) (hv : if e = s.1.length then v = (if x = 0 then nI 0 else nI 100000) else v = Lc f g e x) : sm_C PP X 142 [.ref M, .int (nI e), .int (nI x)] h = some (some (.int v), h) := by
  rw [c142, b142_0]
  simp only [fO a, sm_gI_s, sm_gR_s, sm_gJ_s, sm_cR_s, sm_al_s, sm_sw_s, sm_tl1, sm_tl0, sm_ap0, sm_ap1, List.getElem?_cons_zero, List.getElem?_cons_succ, nk10, nk11, if_true, eq_self, rn.l0]
  by_cases h1 : e = s.1.length
  · rw [if_pos h1] at hv
    rw [if_pos (by rw [h1]), b142_20, b142_20, hv]
    by_cases h2 : x = 0
    · rw [if_pos (show nI x = 0 by rw [h2]; rfl), if_pos h2]
    · rw [if_neg (nI_ne0 (by omega) (by omega)), if_neg h2]
  · rw [if_neg h1] at hv
    rw [if_neg (fun q => h1 ((nI_eq (by omega) (by omega)).mp q)), hv]
    unfold Lc
    by_cases h3 : e < 3
    · rw [if_neg (nI_ge h3 (by omega)), if_pos h3, pk_mul, nI_add, aO i10, ldO (by omega) (by omega), b142_55]
    · rw [if_pos (nI_le (by omega) (by omega)), if_neg h3, pk_sub (by omega), pk_mul, nI_add, aO i11, ldO (by omega) (by omega), b142_55]
/-- leastAt of a row that stands -/
theorem m142k {X : smX} {h : smH} {M d0 l0 q0 e x t e0 : Nat} {s : Sh} {f g : Nat → Int32} (a : MObj h M d0 l0 q0) (rn : MNow h M s) (h6 : s.1.length ≤ 6) (rl : LsM h M s t e0 f g) (he0 : e0 ≤ e) (he : e ≤ s.1.length) (hx : x ≤ t) (ht : t ≤ 5994) : sm_C PP X 142 [.ref M, .int (nI e), .int (nI x)] h = some (some (.int (nI (lM (lsq s (s.1.length - e) e x)))), h) := by
  refine m142 a rn h6 rl.1 rl.2.1 he (by omega) ?_
  by_cases h1 : e = s.1.length
  · rw [if_pos h1, h1, Nat.sub_self]
    unfold lsq lM
    by_cases h2 : x = 0
    · rw [if_pos h2, if_pos h2]
    · rw [if_neg h2, if_neg h2]
  · rw [if_neg h1]
    exact (rl.2.2 e he0 (by omega) x hx).symm
theorem dwt_hi {l : List (Nat × Nat)} {beh : Nat → Option Nat} {sum : Nat} : ∀ (r k : Nat) (o : Option Nat), (∀ j, k ≤ j → j < k + r → sum < pN l j) → laS l beh sum r k o = o := by
  intro r
  induction r with
  | zero => intro k o h; rfl
  | succ r ih =>
    intro k o h
    have e : dwt l k beh sum = none := by unfold dwt; rw [if_pos (h k (by omega) (by omega))]
    unfold laS
    rw [e]
    exact ih (k + 1) o (fun j h1 h2 => h j (by omega) (by omega))
theorem laS_1 {l : List (Nat × Nat)} {beh : Nat → Option Nat} {sum r k : Nat} {o : Option Nat} : laS l beh sum (r + 1) k o = match dwt l k beh sum with
    | none => laS l beh sum r (k + 1) o
    | some d => (match o with
      | none => laS l beh sum r (k + 1) (some d)
      | some b => if d < b then laS l beh sum r (k + 1) (some d) else laS l beh sum r (k + 1) (some b)) := rfl
theorem laS_s {l : List (Nat × Nat)} {beh : Nat → Option Nat} {sum r k : Nat} {o : Option Nat} (hb : ∀ v, o = some v → v ≤ 100000) (hB : ∀ x v, beh x = some v → v ≤ 1000) (hD : pD l k < 100) (hs : pN l k ≤ sum) : ∃ o2, laS l beh sum (r + 1) k o = laS l beh sum r (k + 1) o2 ∧ lM o2 = (if lM o ≤ lM (beh (sum - pN l k)) + pD l k then lM o else lM (beh (sum - pN l k)) + pD l k) ∧ ∀ v, o2 = some v → v ≤ 100000 := by
  rw [laS_1]
  unfold dwt
  rw [if_neg (by omega)]
  cases e : beh (sum - pN l k) with
  | none =>
    refine ⟨o, rfl, ?_, hb⟩
    cases o with
    | none => unfold lM; dsimp only; rw [if_pos (by omega)]
    | some b =>
      have := hb b rfl
      unfold lM
      dsimp only
      rw [if_pos (by omega)]
  | some v =>
    have hv := hB _ _ e
    cases o with
    | none =>
      refine ⟨some (pD l k + v), rfl, ?_, fun y hy => by cases hy; omega⟩
      unfold lM
      dsimp only
      rw [if_neg (by omega), Nat.add_comm]
    | some b =>
      have hb2 := hb b rfl
      dsimp only
      by_cases h1 : pD l k + v < b
      · refine ⟨some (pD l k + v), by rw [if_pos h1], ?_, fun y hy => by cases hy; omega⟩
        unfold lM
        dsimp only
        rw [if_neg (by omega), Nat.add_comm]
      · refine ⟨some b, by rw [if_neg h1], ?_, hb⟩
        unfold lM
        dsimp only
        rw [if_pos (by omega)]
theorem lM_le {s : Sh} (ok : agOk s) (h6 : s.1.length ≤ 6) {r i x : Nat} (hi : i + r = s.1.length) : lM (lsq s r i x) ≤ 100000 := by
  unfold lM
  split
  · exact Nat.le_refl _
  · rename_i v e
    have := lsq_B ok h6 hi x v e
    omega
theorem m143_loop {X : smX} {h : smH} {M d0 l0 q0 e x : Nat} {s : Sh} {f g c p q : Nat → Int32} (a : MObj h M d0 l0 q0) (rn : MNow h M s) (ok : agOk s) (h6 : s.1.length ≤ 6) (fn : FnM h M s f g c) (rl : LsM h M s x (e + 1) p q) (he : e < s.1.length) (hx : x ≤ 5994) : ∀ (d k : Nat) (o : Option Nat), k + d = (agE s e).1.length → (∀ v, o = some v → v ≤ 100000) → sm_E PP X 143 14 [(0, .ref M), (1, .int (nI e)), (2, .int (nI x)), (3, .int (nI (lM o))), (4, .int (nI (1000 * e))), (5, .int (nI (1000 * e + k)))] [] h = sm_E PP X 143 84 [(0, .ref M), (1, .int (nI e)), (2, .int (nI x)), (3, .int (nI (lM (laS (agE s e).1 (lsq s (s.1.length - (e + 1)) (e + 1)) x d k o))))] [] h := by
  intro d
  have hl := ag_le (s := s) (e := e)
  induction d with
  | zero =>
    intro k o hk ho
    rw [b143_14]
    simp only [fO a, sm_gI_s, sm_gR_s, sm_gJ_s, sm_cR_s, sm_al_s, sm_sw_s, sm_tl1, sm_tl0, sm_ap0, sm_ap1, List.getElem?_cons_zero, List.getElem?_cons_succ, nk10, nk11, if_true, eq_self, fn.l9 he h6, nI_add]
    rw [if_pos (nI_le (by omega) (by omega))]
    rfl
  | succ d ih =>
    intro k o hk ho
    have hk2 : k < (agE s e).1.length := by omega
    have hbd := ok e he k hk2
    rw [b143_14]
    simp only [fO a, sm_gI_s, sm_gR_s, sm_gJ_s, sm_cR_s, sm_al_s, sm_sw_s, sm_tl1, sm_tl0, sm_ap0, sm_ap1, List.getElem?_cons_zero, List.getElem?_cons_succ, nk10, nk11, if_true, eq_self, fn.l9 he h6, nI_add, fn.l7 he h6 hk2]
    rw [if_neg (nI_ge (by omega) (by omega))]
    by_cases h1 : x < pN (agE s e).1 k
    · rw [if_pos (nI_lt h1 (by omega)), dwt_hi (d + 1) k o (fun j j1 j2 => by
        by_cases e0 : j = k
        · rw [e0]; exact h1
        · have := ag_up (s := s) (e := e) (i := k) (j := j) (by omega) (by omega)
          omega)]
    · have h2 : pN (agE s e).1 k ≤ x := by omega
      have hB := lsq_B ok h6 (show (e + 1) + (s.1.length - (e + 1)) = s.1.length by omega)
      obtain ⟨o2, y1, y2, y3⟩ := laS_s (l := (agE s e).1) (r := d) (k := k) (o := o) (sum := x) ho hB hbd.2 h2
      rw [if_neg (nI_nlt (by omega) (by omega)), pk_sub h2, vO a, m142k a rn h6 rl (Nat.le_refl _) (by omega) (show x - pN (agE s e).1 k ≤ x by omega) hx]
      simp only [sm_gI_s, sm_gR_s, sm_gJ_s, sm_cR_s, sm_al_s, sm_sw_s, sm_tl1, sm_tl0, sm_ap0, sm_ap1, List.getElem?_cons_zero, List.getElem?_cons_succ, nk10, nk11, if_true, eq_self, b143_55, fO a, fn.l8 he h6 hk2, nI_add]
      have hb1 := lM_le ok h6 (x := x - pN (agE s e).1 k) (show (e + 1) + (s.1.length - (e + 1)) = s.1.length by omega)
      have ho1 : lM o ≤ 100000 := by
        unfold lM
        split
        · exact Nat.le_refl _
        · exact ho _ rfl
      rw [y1]
      by_cases h3 : lM o ≤ lM (lsq s (s.1.length - (e + 1)) (e + 1) (x - pN (agE s e).1 k)) + pD (agE s e).1 k
      · rw [if_pos h3] at y2
        rw [if_pos (nI_le h3 (by omega)), b143_77, nI_add, ← y2]
        exact ih (k + 1) o2 (by omega) y3
      · rw [if_neg h3] at y2
        rw [if_neg (nI_ge (by omega) (by omega)), b143_77, nI_add, ← y2]
        exact ih (k + 1) o2 (by omega) y3
/-- layLeast -/
theorem m143 {X : smX} {h : smH} {M e x t : Nat} {st : St} {f g c p q : Nat → Int32} (r : RepM h M st) (fn : FnM h M st.2.1 f g c) (rl : LsM h M st.2.1 t (e + 1) p q) (he : e < st.2.1.1.length) (hx : x ≤ t) (ht : t ≤ 5994) : ∃ h' p' q', sm_C PP X 143 [.ref M, .int (nI e), .int (nI x)] h = some (none, h') ∧ RepM h' M st ∧ FnM h' M st.2.1 f g c ∧ LsM h' M st.2.1 t (e + 1) p' q' ∧ Lc p' q' e x = nI (lM (lsq st.2.1 (st.2.1.1.length - e) e x)) ∧ (∀ y, y ≤ t → y ≠ x → Lc p' q' e y = Lc p q e y) ∧ Fr h h' M (M + 16) := by
  obtain ⟨⟨q0, a⟩, -, rn, -⟩ := id r
  have ok := r.ok
  have h6 := r.h6
  have rlx : LsM h M st.2.1 x (e + 1) p q := ⟨rl.1, rl.2.1, fun j j1 j2 y hy => rl.2.2 j j1 j2 y (by omega)⟩
  have e1 := m143_loop (X := X) a rn ok h6 fn rlx he (by omega) (agE st.2.1 e).1.length 0 none (by omega) (fun v hv => by cases hv)
  rw [Nat.add_zero, show lM none = 100000 from rfl] at e1
  have e2 : laS (agE st.2.1 e).1 (lsq st.2.1 (st.2.1.1.length - (e + 1)) (e + 1)) x (agE st.2.1 e).1.length 0 none = lsq st.2.1 (st.2.1.1.length - e) e x := by
    rw [show st.2.1.1.length - e = (st.2.1.1.length - (e + 1)) + 1 by omega]
    rfl
  rw [e2] at e1
  have hE : ∀ v, sm_C PP X 143 [.ref M, .int (nI e), .int (nI x)] h = v ↔ sm_E PP X 143 84 [(0, .ref M), (1, .int (nI e)), (2, .int (nI x)), (3, .int (nI (lM (lsq st.2.1 (st.2.1.1.length - e) e x))))] [] h = v := fun v => by
    rw [c143, b143_0, pk_mul, e1]
  by_cases h3 : e < 3
  · have k1 : Fr h (sm_w h (M + 10) (.inl (.int, 17985, .inl (upd p (5995 * e + x) (nI (lM (lsq st.2.1 (st.2.1.1.length - e) e x))))))) (M + 10) (M + 10 + 1) := Fr.w
    refine ⟨_, _, q, (hE _).mpr ?_, r.cell k1 rl.1 w_eq (by omega), fn.fr k1 (by omega), ⟨w_eq, rl.2.1.fr k1 (by omega), fun j j1 j2 y hy => ?_⟩, ?_, fun y hy hne => ?_, k1.mono (by omega) (by omega)⟩
    · rw [b143_84, if_neg (nI_ge h3 (by omega))]
      simp only [fO a, sm_gI_s, sm_gR_s, sm_gJ_s, sm_cR_s, sm_al_s, sm_sw_s, sm_tl1, sm_tl0, sm_ap0, sm_ap1, List.getElem?_cons_zero, List.getElem?_cons_succ, nk10, nk11, if_true, eq_self, pk_mul, nI_add]
      rw [stO rl.1 (by omega) (by omega), b143_120]
    · rw [← rl.2.2 j j1 j2 y hy]
      unfold Lc
      split
      · exact pk_un (by omega)
      · rfl
    · unfold Lc
      rw [if_pos h3, pk_us]
    · unfold Lc
      rw [if_pos h3, if_pos h3, pk_un (by omega)]
  · have k1 : Fr h (sm_w h (M + 11) (.inl (.int, 17985, .inl (upd q (5995 * (e - 3) + x) (nI (lM (lsq st.2.1 (st.2.1.1.length - e) e x))))))) (M + 11) (M + 11 + 1) := Fr.w
    refine ⟨_, p, _, (hE _).mpr ?_, r.cell k1 rl.2.1 w_eq (by omega), fn.fr k1 (by omega), ⟨rl.1.fr k1 (by omega), w_eq, fun j j1 j2 y hy => ?_⟩, ?_, fun y hy hne => ?_, k1.mono (by omega) (by omega)⟩
    · rw [b143_84, if_pos (nI_le (by omega) (by omega))]
      simp only [fO a, sm_gI_s, sm_gR_s, sm_gJ_s, sm_cR_s, sm_al_s, sm_sw_s, sm_tl1, sm_tl0, sm_ap0, sm_ap1, List.getElem?_cons_zero, List.getElem?_cons_succ, nk10, nk11, if_true, eq_self]
      rw [pk_sub (by omega), pk_mul, nI_add, stO rl.2.1 (by omega) (by omega), b143_120]
    · rw [← rl.2.2 j j1 j2 y hy]
      unfold Lc
      split
      · rfl
      · exact pk_un (by omega)
    · unfold Lc
      rw [if_neg h3, pk_us]
    · unfold Lc
      rw [if_neg h3, if_neg h3, pk_un (by omega)]
theorem m144_row {X : smX} {M e t : Nat} {st : St} {f g c : Nat → Int32} (he : e < st.2.1.1.length) (ht : t ≤ 5994) : ∀ (d x : Nat), x + d = t + 1 → ∀ (h : smH) (p q : Nat → Int32), RepM h M st → FnM h M st.2.1 f g c → LsM h M st.2.1 t (e + 1) p q → (∀ y, y < x → Lc p q e y = nI (lM (lsq st.2.1 (st.2.1.1.length - e) e y))) → ∃ h' p' q', sm_E PP X 144 32 [(0, .ref M), (1, .int (nI t)), (2, .int (nI e)), (3, .int (nI x))] [] h = sm_E PP X 144 26 [(0, .ref M), (1, .int (nI t)), (2, .int (nI e + -nI 1))] [] h' ∧ RepM h' M st ∧ FnM h' M st.2.1 f g c ∧ LsM h' M st.2.1 t e p' q' ∧ Fr h h' M (M + 16) := by
  intro d
  induction d with
  | zero =>
    intro x hx h p q r fn rl hy
    refine ⟨h, p, q, ?_, r, fn, ⟨rl.1, rl.2.1, fun j j1 j2 y hy2 => ?_⟩, Fr.rf⟩
    · rw [b144_32, if_pos (nI_lt (by omega) (by omega))]
    · by_cases e0 : j = e
      · rw [e0]; exact hy y (by omega)
      · exact rl.2.2 j (by omega) j2 y hy2
  | succ d ih =>
    intro x hx h p q r fn rl hy
    obtain ⟨⟨q0, a⟩, -⟩ := id r
    obtain ⟨h1, p1, q1, e1, r1, fn1, rl1, g1, g2, k1⟩ := m143 (X := X) r fn rl he (show x ≤ t by omega) ht
    obtain ⟨h2, p2, q2, e2, r2, fn2, rl2, k2⟩ := ih (x + 1) (by omega) h1 p1 q1 r1 fn1 rl1 (fun y hy2 => by
      by_cases e0 : y = x
      · rw [e0]; exact g1
      · rw [g2 y (by omega) e0]; exact hy y (by omega))
    refine ⟨h2, p2, q2, ?_, r2, fn2, rl2, k1.s k2⟩
    rw [b144_32, if_neg (nI_nlt (by omega) (by omega)), vO a, e1]
    simp only [sm_gI_s, sm_gR_s, sm_gJ_s, sm_cR_s, sm_al_s, sm_sw_s, sm_tl1, sm_tl0, sm_ap0, sm_ap1, List.getElem?_cons_zero, List.getElem?_cons_succ, nk10, nk11, if_true, eq_self, b144_43, nI_add, e2]
theorem m144_rows {X : smX} {M t : Nat} {st : St} {f g c : Nat → Int32} (ht : t ≤ 5994) : ∀ (e : Nat), e ≤ st.2.1.1.length → ∀ (h : smH) (p q : Nat → Int32), RepM h M st → FnM h M st.2.1 f g c → LsM h M st.2.1 t e p q → ∃ h' p' q', sm_E PP X 144 26 [(0, .ref M), (1, .int (nI t)), (2, .int (nI e + -nI 1))] [] h = sm_E PP X 144 61 [(0, .ref M), (1, .int (nI t))] [.int (nI (lM (lsq st.2.1 st.2.1.1.length 0 t)))] h' ∧ RepM h' M st ∧ FnM h' M st.2.1 f g c ∧ LsM h' M st.2.1 t 0 p' q' ∧ Fr h h' M (M + 16) := by
  intro e
  induction e with
  | zero =>
    intro he h p q r fn rl
    obtain ⟨⟨q0, a⟩, -, rn, -⟩ := id r
    refine ⟨h, p, q, ?_, r, fn, rl, Fr.rf⟩
    rw [b144_26, if_pos (by decide), vO a, m142k a rn r.h6 rl (Nat.le_refl _) (Nat.zero_le _) (Nat.le_refl _) ht]
    rfl
  | succ e ih =>
    intro he h p q r fn rl
    obtain ⟨h1, p1, q1, e1, r1, fn1, rl1, k1⟩ := m144_row (X := X) (show e < st.2.1.1.length by omega) ht (t + 1) 0 (by omega) h p q r fn rl (fun y hy => absurd hy (Nat.not_lt_zero y))
    obtain ⟨h2, p2, q2, e2, r2, fn2, rl2, k2⟩ := ih (by omega) h1 p1 q1 r1 fn1 rl1
    have h6 := r.h6
    refine ⟨h2, p2, q2, ?_, r2, fn2, rl2, k1.s k2⟩
    rw [b144_26, pk_m1', if_neg (nI_pos (by omega)), e1, e2]
