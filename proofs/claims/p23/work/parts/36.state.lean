/-! the state: TEXT, sheet, what can be UNDONE (the newest first), IMAGES; class WornSums lies at B -/
abbrev St := List Nat × Sh × List Sh × (Nat → Option Sh)
def ImAt (h : smH) (B : Nat) (im : Nat → Option Sh) : Prop := (∃ ty f, ty.isReference = true ∧ h.1 (B + 248) = some (.inl (ty, 2, .inr (.inr (.inr (.inr f))))) ∧ ∀ i, i < 2 → f i = some (B + 249 + 27 * i)) ∧
  (∃ f, BA h (B + 303) 2 f ∧ ∀ i, i < 2 → f i = bI (im i).isSome) ∧ ∀ i, i < 2 → ∃ s, SheetAt h (B + 249 + 27 * i) s ∧ ∀ s2, im i = some s2 → s = s2
theorem ImAt.fr {h h' : smH} {B lo hi : Nat} {im} (r : ImAt h B im) (k : Fr h h' lo hi) (hd : B + 304 ≤ lo ∨ hi ≤ B + 248) : ImAt h' B im := by
  obtain ⟨⟨ty, g, b1, b2, b3⟩, ⟨f, c1, c2⟩, d⟩ := r
  refine ⟨⟨ty, g, b1, by rw [k.2 _ (by omega)]; exact b2, b3⟩, ⟨f, c1.fr k (by omega), c2⟩, fun i hi => ?_⟩
  obtain ⟨s, d1, d2⟩ := d i hi
  exact ⟨s, d1.fr k (by omega), d2⟩
def Core (h : smH) (B : Nat) (st : St) : Prop := h.1 B = some (.inr (7, [.ref (B + 1), .ref (B + 3), .ref (B + 30), .ref (B + 248), .ref (B + 303), .ref (B + 304), .ref (B + 307)])) ∧
  TextAt h (B + 1) st.1 ∧ SheetAt h (B + 3) st.2.1 ∧ HistAt h (B + 30) st.2.2.1 ∧ ImAt h B st.2.2.2 ∧ NWAt h (B + 304) spN
def RepC (h : smH) (B : Nat) (st : St) : Prop := Core h B st ∧ ∃ K L, FdAt h (B + 307) K L st.2.1
theorem Core.out {h h' : smH} {B lo hi : Nat} {st : St} (r : Core h B st) (k : Fr h h' lo hi) (hd : B + 307 ≤ lo ∨ hi ≤ B) : Core h' B st := by
  obtain ⟨a, b, c, d, e, f⟩ := r
  exact ⟨by rw [k.2 _ (by omega)]; exact a, b.fr k (by omega), c.fr k (by omega), d.fr k (by omega), e.fr k (by omega), f.fr k (by omega)⟩
theorem Core.text {h h' : smH} {B : Nat} {st : St} {ws} (r : Core h B st) (k : Fr h h' (B + 1) (B + 3)) (t : TextAt h' (B + 1) ws) : Core h' B (ws, st.2) := by
  obtain ⟨a, b, c, d, e, f⟩ := r
  exact ⟨by rw [k.2 _ (by omega)]; exact a, t, c.fr k (by omega), d.fr k (by omega), e.fr k (by omega), f.fr k (by omega)⟩
theorem Core.sheet {h h' : smH} {B : Nat} {st : St} {s} (r : Core h B st) (k : Fr h h' (B + 3) (B + 30)) (t : SheetAt h' (B + 3) s) : Core h' B (st.1, s, st.2.2) := by
  obtain ⟨a, b, c, d, e, f⟩ := r
  exact ⟨by rw [k.2 _ (by omega)]; exact a, b.fr k (by omega), t, d.fr k (by omega), e.fr k (by omega), f.fr k (by omega)⟩
theorem Core.hist {h h' : smH} {B : Nat} {st : St} {p} (r : Core h B st) (k : Fr h h' (B + 30) (B + 248)) (t : HistAt h' (B + 30) p) : Core h' B (st.1, st.2.1, p, st.2.2.2) := by
  obtain ⟨a, b, c, d, e, f⟩ := r
  exact ⟨by rw [k.2 _ (by omega)]; exact a, b.fr k (by omega), c.fr k (by omega), t, e.fr k (by omega), f.fr k (by omega)⟩
theorem FdAt.any {h : smH} {F : Nat} {s s2 : Sh} (r : FdAt h F false false s) : FdAt h F false false s2 := by
  obtain ⟨ld, W, ⟨a, b, c, d⟩, e⟩ := r
  exact ⟨ld, W, ⟨a, b, c, fun h => by cases h⟩, fun h => by cases h⟩
theorem RepC.out {h h' : smH} {B lo hi : Nat} {st : St} (r : RepC h B st) (k : Fr h h' lo hi) (hd : B + 338 ≤ lo ∨ hi ≤ B) : RepC h' B st := by
  obtain ⟨a, K, L, b⟩ := r
  exact ⟨a.out k (by omega), K, L, b.fr k (by omega)⟩
/-- startChange -/
theorem m43 {X : smX} {h : smH} {B : Nat} {st : St} (r : RepC h B st) : ∃ h', sm_C PP X 43 [.ref B] h = some (none, h') ∧ Core h' B (st.1, st.2.1, (st.2.1 :: st.2.2.1).take 8, st.2.2.2) ∧ (∀ s, FdAt h' (B + 307) false false s) ∧ Fr h h' (B + 30) (B + 338) := by
  obtain ⟨rc, K, L, rf⟩ := r
  obtain ⟨h1, e1, q1, k1⟩ := m41 (X := X) (Or.inl (show B + 3 + 27 ≤ B + 30 by omega)) rc.2.2.2.1 rc.2.2.1
  have rc1 := rc.hist (k1.mono (by omega) (by omega)) q1
  obtain ⟨h2, e2, q2, k2⟩ := m42A (X := X) (rf.fr k1 (by omega)) st.2.1
  refine ⟨h2, ?_, rc1.out k2 (by omega), fun s => q2.any, k1.tr k2 (by omega) (by omega) (by omega) (by omega)⟩
  obtain ⟨ld1, W1, a1, -⟩ := rf.fr k1 (by omega)
  simp only [c43, b43_0, fO rc.1, sm_gI_s, sm_gR_s, sm_gJ_s, sm_cR_s, sm_al_s, sm_sw_s, sm_tl1, sm_tl0, sm_ap0, sm_ap1, List.getElem?_cons_zero, List.getElem?_cons_succ, nk10, nk11, if_true, eq_self, vO rc.2.2.2.1.choose_spec.choose_spec.1, e1, b43_11, fO rc1.1, vO a1.1.1, e2, b43_18]
/-- refresh, of the whole object -/
theorem m68R {X : smX} {h : smH} {B : Nat} {st : St} (r : RepC h B st) : ∃ h' L, sm_C PP X 68 [.ref (B + 307), .ref (B + 3), .ref (B + 304)] h = some (none, h') ∧ Core h' B st ∧ FdAt h' (B + 307) true L st.2.1 ∧ Fr h h' (B + 307) (B + 338) := by
  obtain ⟨rc, K, L, rf⟩ := r
  obtain ⟨h1, e1, q1, k1⟩ := m68A (X := X) (show B + 3 + 27 ≤ B + 307 by omega) (show B + 304 + 3 ≤ B + 307 by omega) rf rc.2.2.1 rc.2.2.2.2.2
  exact ⟨h1, L, e1, rc.out k1 (by omega), q1, k1.mono (by omega) (by omega)⟩
/-- agreeingOf -/
theorem m70 {X : smX} {h : smH} {B e : Nat} {st : St} (r : RepC h B st) (he : e < st.2.1.1.length) : ∃ h' L, sm_C PP X 70 [.ref B, .int (nI e)] h = some (some (.ref (B + 320 + 3 * e)), h') ∧ Core h' B st ∧ FdAt h' (B + 307) true L st.2.1 ∧ AgrAt h' (B + 320 + 3 * e) (agE st.2.1 e) ∧ Fr h h' (B + 307) (B + 338) := by
  have h6 := r.1.2.2.1.2.1.1
  obtain ⟨rc, K, L0, ld0, W0, a0, -⟩ := id r
  obtain ⟨h1, L, e1, q1, g1, k1⟩ := m68R (X := X) r
  obtain ⟨ld, W, a, b⟩ := id g1
  have rA := a.2.2.1 e (by omega)
  rw [a.2.2.2 rfl e he, show B + 307 + 13 + 3 * e = B + 320 + 3 * e by omega] at rA
  refine ⟨h1, L, ?_, q1, g1, rA, k1⟩
  simp only [c70, b70_0, fO rc.1, sm_gI_s, sm_gR_s, sm_gJ_s, sm_cR_s, sm_al_s, sm_sw_s, sm_tl1, sm_tl0, sm_ap0, sm_ap1, List.getElem?_cons_zero, List.getElem?_cons_succ, nk10, nk11, if_true, eq_self, vO a0.1.1, e1, b70_15, fO q1.1, vO a.1.1, m69 a.1 (show e < 6 by omega), b70_23]
/-- what a row of a sheet is -/
def rowF (s : Sh) (e f : Nat) : List Nat := if f = 0 then (en s e).1 else (en s e).2
def adr (S e f : Nat) : Nat := if f = 0 then S + 2 + 2 * e else S + 15 + 2 * e
def capF (f : Nat) : Nat := if f = 0 then 31 else 3
theorem SheetAt.row {h : smH} {S e f : Nat} {s : Sh} (r : SheetAt h S s) (he : e < s.1.length) : RowAt h (adr S e f) (capF f) (rowF s e f) := by
  obtain ⟨a, b, W, c, d⟩ := r
  have h6 := b.1
  have h1 := c e (by omega)
  rw [d e he] at h1
  unfold adr capF rowF
  split
  · exact h1.1
  · exact h1.2
theorem m51k {X : smX} {h : smH} {S e f : Nat} {s : Sh} (r : SheetAt h S s) (he : e < s.1.length) (hf : f < 2) : sm_C PP X 51 [.ref S, .int (nI e), .int (nI f)] h = some (some (.ref (adr S e f)), h) := by
  unfold adr
  by_cases h0 : f = 0
  · rw [if_pos h0, h0, m51w r.1 r.2.1.1 he]
  · rw [if_neg h0, show f = 1 by omega, m51f r.1 r.2.1.1 he]
def setR (s : Sh) (e f p c : Nat) : Sh := (s.1.set e (if f = 0 then ((en s e).1.set p c, (en s e).2) else ((en s e).1, (en s e).2.set p c)), s.2)
theorem SheetAt.put {h h' : smH} {S e f p c : Nat} {s : Sh} (r : SheetAt h S s) (he : e < s.1.length) (k : Fr h h' (adr S e f + 1) (adr S e f + 2)) (t : RowAt h' (adr S e f) (capF f) ((rowF s e f).set p c)) : SheetAt h' S (setR s e f p c) := by
  obtain ⟨a, b, W, d, g⟩ := r
  have h6 := b.1
  have hlen : (setR s e f p c).1.length = s.1.length := List.length_set
  have ge := g e he
  unfold adr capF rowF at t
  unfold adr at k
  have a1 : SObj h' S (setR s e f p c).1.length (setR s e f p c).2.1 (setR s e f p c).2.2 := by
    rw [hlen]
    split at k
    · exact a.fr k (by omega) (by omega) (by omega)
    · exact a.fr k (by omega) (by omega) (by omega)
  refine ⟨a1, ⟨by rw [hlen]; exact h6, b.2⟩, uP W e (if f = 0 then ((en s e).1.set p c, (en s e).2) else ((en s e).1, (en s e).2.set p c)), ?_, fun j hj => ?_⟩
  · by_cases h0 : f = 0
    · rw [if_pos h0] at t k ⊢
      rw [if_pos h0] at t
      rw [if_pos h0] at t
      have := d.setW (by omega) t (k.mono (by omega) (by omega))
      rw [ge] at this
      exact this
    · rw [if_neg h0] at t k ⊢
      rw [if_neg h0] at t
      rw [if_neg h0] at t
      have := d.setF (by omega) t (k.mono (by omega) (by omega))
      rw [ge] at this
      exact this
  · rw [hlen] at hj
    show _ = en (s.1.set e _, s.2.1, s.2.2) j
    rw [en_set he]
    by_cases e0 : j = e
    · rw [if_pos e0, e0, uP_eq]
    · rw [if_neg e0, uP_ne e0]
      exact g j hj
theorem adr_bd {S e f : Nat} (he : e < 6) : S + 2 ≤ adr S e f ∧ adr S e f + 2 ≤ S + 27 := by
  unfold adr
  split <;> omega
