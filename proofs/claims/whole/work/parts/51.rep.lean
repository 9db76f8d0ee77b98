/-! the state of the reference -/
def MNow (h : smH) (M : Nat) (s : Sh) : Prop := ∃ f, IA h (M + 1) 219 f ∧ Enc f 0 s
def MPast (h : smH) (M : Nat) (p : List Sh) : Prop := ∃ f, IA h (M + 2) 1752 f ∧ p.length ≤ 8 ∧ ∀ i, i < p.length → ∃ s, p[p.length - 1 - i]? = some s ∧ Enc f (219 * i) s
def MIm (h : smH) (M : Nat) (im : Nat → Option Sh) : Prop := (∃ f, IA h (M + 3) 438 f ∧ ∀ i, i < 2 → ∀ s, im i = some s → Enc f (219 * i) s) ∧ ∃ f, BA h (M + 4) 2 f ∧ ∀ i, i < 2 → f i = bI (im i).isSome
def MTx (h : smH) (M : Nat) (tx : List Nat) : Prop := ∃ f, IA h (M + 5) 40 f ∧ tx.length ≤ 40 ∧ (∀ k, nA tx k < 256) ∧ ∀ k, k < tx.length → f k = nI (nA tx k)
def MScr (h : smH) (M : Nat) : Prop := (∃ f, IA h (M + 6) 40 f) ∧ (∃ f, IA h (M + 7) 6000 f) ∧ (∃ f, IA h (M + 8) 6000 f) ∧ (∃ f, IA h (M + 9) 6 f) ∧ (∃ f, IA h (M + 10) 17985 f) ∧ (∃ f, IA h (M + 11) 17985 f) ∧ (∃ f, IA h (M + 12) 6 f) ∧ (∃ f, BA h (M + 13) 5995 f) ∧ (∃ f, BA h (M + 14) 5995 f) ∧ ∃ f, IA h (M + 15) 26 f
def RepM (h : smH) (M : Nat) (st : St) : Prop := (∃ q, MObj h M st.2.2.1.length st.1.length q) ∧ MTx h M st.1 ∧ MNow h M st.2.1 ∧ MPast h M st.2.2.1 ∧ MIm h M st.2.2.2 ∧ MScr h M
theorem MNow.fr {h h' : smH} {M lo hi : Nat} {s} (x : MNow h M s) (k : Fr h h' lo hi) (hd : M + 1 < lo ∨ hi ≤ M + 1) : MNow h' M s := by
  obtain ⟨f, a, b⟩ := x
  exact ⟨f, a.fr k (by omega), b⟩
theorem MPast.fr {h h' : smH} {M lo hi : Nat} {s} (x : MPast h M s) (k : Fr h h' lo hi) (hd : M + 2 < lo ∨ hi ≤ M + 2) : MPast h' M s := by
  obtain ⟨f, a, b⟩ := x
  exact ⟨f, a.fr k (by omega), b⟩
theorem MIm.fr {h h' : smH} {M lo hi : Nat} {s} (x : MIm h M s) (k : Fr h h' lo hi) (hd : M + 4 < lo ∨ hi ≤ M + 3) : MIm h' M s := by
  obtain ⟨⟨f, a, b⟩, g, c, d⟩ := x
  exact ⟨⟨f, a.fr k (by omega), b⟩, g, c.fr k (by omega), d⟩
theorem MTx.fr {h h' : smH} {M lo hi : Nat} {s} (x : MTx h M s) (k : Fr h h' lo hi) (hd : M + 5 < lo ∨ hi ≤ M + 5) : MTx h' M s := by
  obtain ⟨f, a, b⟩ := x
  exact ⟨f, a.fr k (by omega), b⟩
theorem MScr.fr {h h' : smH} {M lo hi : Nat} (x : MScr h M) (k : Fr h h' lo hi) (hd : M + 15 < lo ∨ hi ≤ M + 6) : MScr h' M := by
  obtain ⟨⟨f1, a1⟩, ⟨f2, a2⟩, ⟨f3, a3⟩, ⟨f4, a4⟩, ⟨f5, a5⟩, ⟨f6, a6⟩, ⟨f7, a7⟩, ⟨f8, a8⟩, ⟨f9, a9⟩, f10, a10⟩ := x
  exact ⟨⟨f1, a1.fr k (by omega)⟩, ⟨f2, a2.fr k (by omega)⟩, ⟨f3, a3.fr k (by omega)⟩, ⟨f4, a4.fr k (by omega)⟩, ⟨f5, a5.fr k (by omega)⟩, ⟨f6, a6.fr k (by omega)⟩, ⟨f7, a7.fr k (by omega)⟩, ⟨f8, a8.fr k (by omega)⟩, ⟨f9, a9.fr k (by omega)⟩, f10, a10.fr k (by omega)⟩
theorem MObj.fr {h h' : smH} {M lo hi d l q : Nat} (x : MObj h M d l q) (k : Fr h h' lo hi) (hd : M < lo ∨ hi ≤ M) : MObj h' M d l q := (k.2 _ (by omega)).trans x
theorem RepM.out {h h' : smH} {M lo hi : Nat} {st} (x : RepM h M st) (k : Fr h h' lo hi) (hd : M + 16 ≤ lo ∨ hi ≤ M) : RepM h' M st := by
  obtain ⟨⟨q, a⟩, b, c, d, e, f⟩ := x
  exact ⟨⟨q, a.fr k (by omega)⟩, b.fr k (by omega), c.fr k (by omega), d.fr k (by omega), e.fr k (by omega), f.fr k (by omega)⟩
/-- its fields that change -/
def mo (M d l q : Nat) : List Value := [.ref (M + 1), .ref (M + 2), .int (nI d), .ref (M + 3), .ref (M + 4), .ref (M + 5), .int (nI l), .ref (M + 6), .int (nI q), .ref (M + 7), .ref (M + 8), .ref (M + 9), .ref (M + 10), .ref (M + 11), .ref (M + 12), .ref (M + 13), .ref (M + 14), .ref (M + 15)]
theorem MObj.set {h : smH} {M d l q d2 l2 q2 : Nat} (x : MObj h M d l q) : MObj (sm_w h M (.inr (8, mo M d2 l2 q2))) M d2 l2 q2 := w_eq
/-- type -/
theorem m108 {X : smX} {h : smH} {M : Nat} {st : St} (r : RepM h M st) (x : Int32) : ∃ h', sm_C PP X 108 [.ref M, .int x] h = some (some (.int (opType st x).1), h') ∧ RepM h' M (opType st x).2 ∧ Fr h h' M (M + 16) := by
  obtain ⟨⟨q, a⟩, ⟨f, b1, b2, b3, b4⟩, c, d, e, g⟩ := id r
  unfold opType
  rw [c108, b108_0, m107]
  simp only [sm_gI_s, sm_gR_s, sm_gJ_s, sm_cR_s, sm_al_s, sm_sw_s, sm_tl1, sm_tl0, sm_ap0, sm_ap1, List.getElem?_cons_zero, List.getElem?_cons_succ, nk10, nk11, if_true, eq_self, b108_8, bI_0, show (nI 0).toInt = 0 by decide, show (nI 255).toInt = 255 by decide, fO a]
  by_cases hv : 0 ≤ x.toInt ∧ x.toInt ≤ 255
  · obtain ⟨k, hk, rfl⟩ := i_nat hv.1
    rw [decide_eq_true hv, if_neg (show ¬ (true = false) by decide), if_pos hv]
    rw [nI_toInt hk] at hv ⊢
    simp only [Int.toNat_natCast, nI_eq (show st.1.length < 2 ^ 31 by omega) (show 40 < 2 ^ 31 by omega)]
    by_cases h1 : st.1.length < 40
    · rw [if_neg (by omega), if_pos h1, stO b1 h1 (by omega)]
      have k1 : Fr h (sm_w h (M + 5) (.inl (.int, 40, .inl (upd f st.1.length (nI k))))) (M + 5) (M + 6) := Fr.w
      have a1 := a.fr k1 (by omega)
      have k2 : Fr (sm_w h (M + 5) (.inl (.int, 40, .inl (upd f st.1.length (nI k))))) (sm_w (sm_w h (M + 5) (.inl (.int, 40, .inl (upd f st.1.length (nI k))))) M (.inr (8, mo M st.2.2.1.length (st.1.length + 1) q))) M (M + 1) := Fr.w
      have a2 : MObj (sm_w (sm_w h (M + 5) (.inl (.int, 40, .inl (upd f st.1.length (nI k))))) M (.inr (8, mo M st.2.2.1.length (st.1.length + 1) q))) M st.2.2.1.length (st.1.length + 1) q := w_eq
      simp only [fO a1, sm_gI_s, sm_gR_s, sm_gJ_s, sm_cR_s, sm_al_s, sm_sw_s, sm_tl1, sm_tl0, sm_ap0, sm_ap1, List.getElem?_cons_zero, List.getElem?_cons_succ, nk10, nk11, if_true, eq_self, nI_add]
      rw [pO a1 (by show 6 < 18; omega)]
      have hlen : (st.1 ++ [k]).length = st.1.length + 1 := by simp
      refine ⟨sm_w (sm_w h (M + 5) (.inl (.int, 40, .inl (upd f st.1.length (nI k))))) M (.inr (8, mo M st.2.2.1.length (st.1.length + 1) q)), ?_, ⟨⟨q, by rw [hlen]; exact a2⟩, ⟨upd f st.1.length (nI k), (w_ne (by omega)).trans w_eq, by rw [hlen]; omega, fun j => ?_, fun j hj => ?_⟩, (c.fr k1 (by omega)).fr k2 (by omega), (d.fr k1 (by omega)).fr k2 (by omega), (e.fr k1 (by omega)).fr k2 (by omega), (g.fr k1 (by omega)).fr k2 (by omega)⟩, (k1.mono (by omega) (by omega)).s (k2.mono (by omega) (by omega))⟩
      · show sm_gI (sm_f (sm_w _ M (.inr (8, mo M st.2.2.1.length (st.1.length + 1) q))) M 8 6) _ = _
        rw [fO a2]
        rfl
      · rw [nA_app]
        split
        · exact b3 j
        · unfold nA
          cases hz : j - st.1.length with
          | zero => show k < 256; omega
          | succ z => show 0 < 256; omega
      · rw [hlen] at hj
        rw [nA_app]
        by_cases e0 : j = st.1.length
        · rw [if_neg (by omega), e0, pk_us, Nat.sub_self]; rfl
        · rw [if_pos (by omega), pk_un e0]; exact b4 j (by omega)
    · rw [if_pos (by omega), if_neg h1]
      exact ⟨h, rfl, r, Fr.rf⟩
  · rw [decide_eq_false hv, if_pos rfl, if_neg hv]
    exact ⟨h, rfl, r, Fr.rf⟩
/-- clear -/
theorem m109 {X : smX} {h : smH} {M : Nat} {st : St} (r : RepM h M st) : ∃ h', sm_C PP X 109 [.ref M] h = some (some (.int (opClear st).1), h') ∧ RepM h' M (opClear st).2 ∧ Fr h h' M (M + 16) := by
  obtain ⟨⟨q, a⟩, ⟨f, b1, b2, b3, b4⟩, c, d, e, g⟩ := id r
  have k2 : Fr h (sm_w h M (.inr (8, mo M st.2.2.1.length 0 q))) M (M + 1) := Fr.w
  refine ⟨_, ?_, ⟨⟨q, a.set⟩, ⟨f, b1.fr k2 (by omega), Nat.zero_le _, fun k => by show 0 < 256; omega, fun k hk => absurd hk (Nat.not_lt_zero k)⟩, c.fr k2 (by omega), d.fr k2 (by omega), e.fr k2 (by omega), g.fr k2 (by omega)⟩, k2.mono (by omega) (by omega)⟩
  rw [c109, b109_0, fO a]
  simp only [sm_gI_s, sm_gR_s, sm_gJ_s, sm_cR_s, sm_al_s, sm_sw_s, sm_tl1, sm_tl0, sm_ap0, sm_ap1, List.getElem?_cons_zero, List.getElem?_cons_succ, nk10, nk11, if_true, eq_self]
  rw [pO a (by show 6 < 18; omega)]
  rfl
