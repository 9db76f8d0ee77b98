/-! NUMBERS in words, of the reference -/
def lwL : List Nat := [510138, 5583, 16116, 5425428, 611814, 186662, 24883, 14866611, 21241125, 178478, 14516, 475731333, 191239924, 486594389268, 486594401766, 15206062374, 15206080819, 15571016145075, 486594059557, 486593968430, 860296948, 860431636, 26888678, 26876198, 26894643, 27529500851, 860101925, 860010798, 4481759912, 4545]
def dg : Nat → Nat → List Nat
  | 0, _ => []
  | r + 1, n => if n = 0 then [] else (96 + n % 32) :: dg r (n / 32)
def wd (w : Nat) : List Nat := dg 10 (lwL.getD w 0)
theorem m127 {X : smX} {h : smH} : ∀ w, w < 30 → sm_C PP X 127 [.int (nI w)] h = some (some (.long (lN (lwL.getD w 0))), h)
  | 0, _ => by
    rw [c127, b127_0, b127_1, if_neg (by decide)]
    show sm_E PP X 127 136 [] [] h = _
    exact b127_136 ..
  | 1, _ => by
    rw [c127, b127_0, b127_1, if_neg (by decide)]
    show sm_E PP X 127 140 [] [] h = _
    exact b127_140 ..
  | 2, _ => by
    rw [c127, b127_0, b127_1, if_neg (by decide)]
    show sm_E PP X 127 144 [] [] h = _
    exact b127_144 ..
  | 3, _ => by
    rw [c127, b127_0, b127_1, if_neg (by decide)]
    show sm_E PP X 127 148 [] [] h = _
    exact b127_148 ..
  | 4, _ => by
    rw [c127, b127_0, b127_1, if_neg (by decide)]
    show sm_E PP X 127 152 [] [] h = _
    exact b127_152 ..
  | 5, _ => by
    rw [c127, b127_0, b127_1, if_neg (by decide)]
    show sm_E PP X 127 156 [] [] h = _
    exact b127_156 ..
  | 6, _ => by
    rw [c127, b127_0, b127_1, if_neg (by decide)]
    show sm_E PP X 127 160 [] [] h = _
    exact b127_160 ..
  | 7, _ => by
    rw [c127, b127_0, b127_1, if_neg (by decide)]
    show sm_E PP X 127 164 [] [] h = _
    exact b127_164 ..
  | 8, _ => by
    rw [c127, b127_0, b127_1, if_neg (by decide)]
    show sm_E PP X 127 168 [] [] h = _
    exact b127_168 ..
  | 9, _ => by
    rw [c127, b127_0, b127_1, if_neg (by decide)]
    show sm_E PP X 127 172 [] [] h = _
    exact b127_172 ..
  | 10, _ => by
    rw [c127, b127_0, b127_1, if_neg (by decide)]
    show sm_E PP X 127 176 [] [] h = _
    exact b127_176 ..
  | 11, _ => by
    rw [c127, b127_0, b127_1, if_neg (by decide)]
    show sm_E PP X 127 180 [] [] h = _
    exact b127_180 ..
  | 12, _ => by
    rw [c127, b127_0, b127_1, if_neg (by decide)]
    show sm_E PP X 127 184 [] [] h = _
    exact b127_184 ..
  | 13, _ => by
    rw [c127, b127_0, b127_1, if_neg (by decide)]
    show sm_E PP X 127 188 [] [] h = _
    exact b127_188 ..
  | 14, _ => by
    rw [c127, b127_0, b127_1, if_neg (by decide)]
    show sm_E PP X 127 192 [] [] h = _
    exact b127_192 ..
  | 15, _ => by
    rw [c127, b127_0, b127_1, if_neg (by decide)]
    show sm_E PP X 127 196 [] [] h = _
    exact b127_196 ..
  | 16, _ => by
    rw [c127, b127_0, b127_1, if_neg (by decide)]
    show sm_E PP X 127 200 [] [] h = _
    exact b127_200 ..
  | 17, _ => by
    rw [c127, b127_0, b127_1, if_neg (by decide)]
    show sm_E PP X 127 204 [] [] h = _
    exact b127_204 ..
  | 18, _ => by
    rw [c127, b127_0, b127_1, if_neg (by decide)]
    show sm_E PP X 127 208 [] [] h = _
    exact b127_208 ..
  | 19, _ => by
    rw [c127, b127_0, b127_1, if_neg (by decide)]
    show sm_E PP X 127 212 [] [] h = _
    exact b127_212 ..
  | 20, _ => by
    rw [c127, b127_0, b127_1, if_neg (by decide)]
    show sm_E PP X 127 216 [] [] h = _
    exact b127_216 ..
  | 21, _ => by
    rw [c127, b127_0, b127_1, if_neg (by decide)]
    show sm_E PP X 127 220 [] [] h = _
    exact b127_220 ..
  | 22, _ => by
    rw [c127, b127_0, b127_1, if_neg (by decide)]
    show sm_E PP X 127 224 [] [] h = _
    exact b127_224 ..
  | 23, _ => by
    rw [c127, b127_0, b127_1, if_neg (by decide)]
    show sm_E PP X 127 228 [] [] h = _
    exact b127_228 ..
  | 24, _ => by
    rw [c127, b127_0, b127_1, if_neg (by decide)]
    show sm_E PP X 127 232 [] [] h = _
    exact b127_232 ..
  | 25, _ => by
    rw [c127, b127_0, b127_1, if_neg (by decide)]
    show sm_E PP X 127 236 [] [] h = _
    exact b127_236 ..
  | 26, _ => by
    rw [c127, b127_0, b127_1, if_neg (by decide)]
    show sm_E PP X 127 240 [] [] h = _
    exact b127_240 ..
  | 27, _ => by
    rw [c127, b127_0, b127_1, if_neg (by decide)]
    show sm_E PP X 127 244 [] [] h = _
    exact b127_244 ..
  | 28, _ => by
    rw [c127, b127_0, b127_1, if_neg (by decide)]
    show sm_E PP X 127 248 [] [] h = _
    exact b127_248 ..
  | 29, _ => by
    rw [c127, b127_0, b127_1, if_neg (by decide)]
    show sm_E PP X 127 252 [] [] h = _
    exact b127_252 ..
  | w + 30, q => absurd q (by omega)
theorem wd_ok : (List.range 30).all (fun w => decide (wd w = if w < 10 then nth (stN 0) 0 w else if w < 20 then nth (stN 1) 0 (w - 10) else if w < 28 then nth (stN 2) 0 (w - 20) else if w = 28 then (stN 3).drop 1 else [97, 110, 100])) = true := by decide +kernel
/-- what is spelt so far -/
def SpAt (h : smH) (M d l : Nat) (sp : List Nat) : Prop := MObj h M d l sp.length ∧ ∃ g, IA h (M + 6) 40 g ∧ ∀ k, k < sp.length → g k = nI (nA sp k)
theorem pMq {h : smH} {M d l q q2 : Nat} {κ : smH → smR} (x : MObj h M d l q) : sm_fP h M 8 8 (.int (nI q2)) κ = κ (sm_w h M (.inr (8, mo M d l q2))) := by
  rw [pO x (by show 8 < 18; omega)]
  rfl
/-- a letter more -/
theorem sp_add {h : smH} {M d l c : Nat} {sp : List Nat} (r : SpAt h M d l sp) (hl : sp.length < 40) : ∃ g, IA h (M + 6) 40 g ∧ MObj (sm_w h (M + 6) (.inl (.int, 40, .inl (upd g sp.length (nI c))))) M d l sp.length ∧ SpAt (sm_w (sm_w h (M + 6) (.inl (.int, 40, .inl (upd g sp.length (nI c))))) M (.inr (8, mo M d l (sp.length + 1)))) M d l (sp ++ [c]) ∧ h.2 = h.2 := by
  obtain ⟨a, g, g1, g2⟩ := r
  have hlen : (sp ++ [c]).length = sp.length + 1 := by simp
  refine ⟨g, g1, (w_ne (by omega)).trans a, ⟨by rw [hlen]; exact w_eq, upd g sp.length (nI c), (w_ne (by omega)).trans w_eq, fun k hk => ?_⟩, rfl⟩
  rw [hlen] at hk
  rw [nA_app]
  by_cases e : k = sp.length
  · rw [if_neg (by omega), e, pk_us, Nat.sub_self]; rfl
  · rw [if_pos (by omega), pk_un e]; exact g2 k (by omega)
/-- all but M and M + 6 as it was -/
def Fm (h h' : smH) (M : Nat) : Prop := h'.2 = h.2 ∧ ∀ a, a ≠ M → a ≠ M + 6 → h'.1 a = h.1 a
theorem Fm.rf {h : smH} {M : Nat} : Fm h h M := ⟨rfl, fun _ _ _ => rfl⟩
theorem Fm.tr {h h1 h2 : smH} {M : Nat} (x : Fm h h1 M) (y : Fm h1 h2 M) : Fm h h2 M := ⟨y.1.trans x.1, fun a p q => (y.2 a p q).trans (x.2 a p q)⟩
theorem Fm.ww {h : smH} {M : Nat} {e e2 : smC} : Fm h (sm_w (sm_w h (M + 6) e) M e2) M := ⟨rfl, fun _ p q => (w_ne p).trans (w_ne q)⟩
theorem lrem2 {a b : Nat} (ha : a < 2 ^ 63) (h0 : 0 < b) (hb : b < 2 ^ 63) : lN a - lN (a / b) * lN b = lN (a % b) := by
  rw [← pk_lDiv ha h0 hb, pk_lRem ha h0 hb]
theorem m128_loop {X : smX} {M d l : Nat} : ∀ (r n : Nat) (h : smH) (sp : List Nat), n < 32 ^ r → r ≤ 10 → SpAt h M d l sp → sp.length + (dg r n).length ≤ 40 → ∃ h', sm_E PP X 128 33 [(0, .ref M), (2, .long (lN n))] [] h = some (none, h') ∧ SpAt h' M d l (sp ++ dg r n) ∧ Fm h h' M := by
  intro r
  induction r with
  | zero =>
    intro n h sp hn hr rs hl
    obtain rfl : n = 0 := by rw [Nat.pow_zero] at hn; omega
    refine ⟨h, ?_, by show SpAt h M d l (sp ++ []); rw [List.append_nil]; exact rs, Fm.rf⟩
    rw [b128_33, if_pos (by decide)]
  | succ r ih =>
    intro n h sp hn hr rs hl
    have h63 : n < 2 ^ 63 := Nat.lt_of_lt_of_le hn (Nat.le_trans (Nat.pow_le_pow_right (by omega) hr) (by decide))
    unfold dg at hl ⊢
    by_cases h0 : n = 0
    · subst h0
      refine ⟨h, ?_, by rw [if_pos rfl, List.append_nil]; exact rs, Fm.rf⟩
      rw [b128_33, if_pos (by decide)]
    · rw [if_neg h0] at hl ⊢
      rw [List.length_cons] at hl
      obtain ⟨g, g1, g3, g4, -⟩ := sp_add (c := 96 + n % 32) rs (by omega)
      have hdiv : n / 32 < 32 ^ r := by
        rw [Nat.pow_succ] at hn
        omega
      obtain ⟨h2, e2, q2, k2⟩ := ih (n / 32) _ _ hdiv (by omega) g4 (by rw [List.length_append]; show sp.length + 1 + _ ≤ 40; omega)
      refine ⟨h2, ?_, by rw [List.append_assoc] at q2; exact q2, Fm.ww.tr k2⟩
      rw [b128_33, if_neg (by rw [lg_cmp_le, pk_lLE h63 (by omega)]; omega)]
      simp only [fO rs.1, sm_gI_s, sm_gR_s, sm_gJ_s, sm_cR_s, sm_al_s, sm_sw_s, sm_tl1, sm_tl0, sm_ap0, sm_ap1, List.getElem?_cons_zero, List.getElem?_cons_succ, nk10, nk11, if_true, eq_self, lrem2 h63 (show 0 < 32 by omega) (show 32 < 2 ^ 63 by omega), pk_lDiv h63 (show 0 < 32 by omega) (show 32 < 2 ^ 63 by omega), lN_i, nI_add]
      rw [if_neg (by decide), pk_sub (by omega), show 97 + n % 32 - 1 = 96 + n % 32 by omega, stO g1 (by omega) (by omega)]
      simp only [fO g3, sm_gI_s, sm_gR_s, sm_gJ_s, sm_cR_s, sm_al_s, sm_sw_s, sm_tl1, sm_tl0, sm_ap0, sm_ap1, List.getElem?_cons_zero, List.getElem?_cons_succ, nk10, nk11, if_true, eq_self, nI_add]
      rw [pMq g3, if_neg (by decide)]
      exact e2
def sy (sp : List Nat) (w : Nat) : List Nat := if sp.length = 0 then wd w else sp ++ [32] ++ wd w
theorem wd_bd : (List.range 30).all (fun w => decide (lwL.getD w 0 < 32 ^ 10)) = true := by decide +kernel
theorem m128 {X : smX} {h : smH} {M d l w : Nat} {sp : List Nat} (r : SpAt h M d l sp) (hw : w < 30) (hl : (sy sp w).length ≤ 40) : ∃ h', sm_C PP X 128 [.ref M, .int (nI w)] h = some (none, h') ∧ SpAt h' M d l (sy sp w) ∧ Fm h h' M := by
  have hb := of_decide_eq_true (List.all_eq_true.mp wd_bd w (List.mem_range.mpr hw))
  unfold sy at hl ⊢
  rw [c128, b128_0]
  simp only [fO r.1, sm_gI_s, sm_gR_s, sm_gJ_s, sm_cR_s, sm_al_s, sm_sw_s, sm_tl1, sm_tl0, sm_ap0, sm_ap1, List.getElem?_cons_zero, List.getElem?_cons_succ, nk10, nk11, if_true, eq_self]
  by_cases h0 : sp.length = 0
  · rw [if_pos h0] at hl ⊢
    have hs : sp = [] := List.length_eq_zero_iff.mp h0
    subst hs
    obtain ⟨h2, e2, q2, k2⟩ := m128_loop (X := X) 10 (lwL.getD w 0) h [] hb (by omega) r (by show 0 + (wd w).length ≤ 40; omega)
    refine ⟨h2, ?_, q2, k2⟩
    rw [if_pos (by decide), b128_28, m127 w hw]
    simp only [sm_gI_s, sm_gR_s, sm_gJ_s, sm_cR_s, sm_al_s, sm_sw_s, sm_tl1, sm_tl0, sm_ap0, sm_ap1, List.getElem?_cons_zero, List.getElem?_cons_succ, nk10, nk11, if_true, eq_self, b128_32, e2]
  · rw [if_neg h0] at hl ⊢
    rw [List.length_append, List.length_append] at hl
    have hl2 : sp.length + 1 + (wd w).length ≤ 40 := hl
    obtain ⟨g, g1, g3, g4, -⟩ := sp_add (c := 32) r (by omega)
    obtain ⟨h2, e2, q2, k2⟩ := m128_loop (X := X) 10 (lwL.getD w 0) _ _ hb (by omega) g4 (by rw [List.length_append]; show sp.length + 1 + (wd w).length ≤ 40; omega)
    refine ⟨h2, ?_, q2, Fm.ww.tr k2⟩
    rw [if_neg (nI_nle (by omega) (by omega)), stO g1 (by omega) (by omega)]
    simp only [fO g3, sm_gI_s, sm_gR_s, sm_gJ_s, sm_cR_s, sm_al_s, sm_sw_s, sm_tl1, sm_tl0, sm_ap0, sm_ap1, List.getElem?_cons_zero, List.getElem?_cons_succ, nk10, nk11, if_true, eq_self, nI_add]
    rw [pMq g3, b128_28, m127 w hw]
    simp only [sm_gI_s, sm_gR_s, sm_gJ_s, sm_cR_s, sm_al_s, sm_sw_s, sm_tl1, sm_tl0, sm_ap0, sm_ap1, List.getElem?_cons_zero, List.getElem?_cons_succ, nk10, nk11, if_true, eq_self, b128_32, e2]
