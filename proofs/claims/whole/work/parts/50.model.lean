/-! THE REFERENCE: its state, at M; copying -/
def EncE (f : Nat → Int32) (a : Nat) (p : List Nat × List Nat) : Prop := f a = nI p.1.length ∧ (∀ k, k < p.1.length → f (a + 1 + k) = nI (nA p.1 k)) ∧ f (a + 32) = nI p.2.length ∧ ∀ k, k < p.2.length → f (a + 33 + k) = nI (nA p.2 k)
def okE (p : List Nat × List Nat) : Prop := p.1.length ≤ 31 ∧ p.2.length ≤ 3 ∧ (∀ k, nA p.1 k < 256) ∧ (∀ k, nA p.2 k < 256) ∧ ∀ k, k < p.2.length → nA p.2 k = 63 ∨ (48 ≤ nA p.2 k ∧ nA p.2 k ≤ 57)
def Enc (f : Nat → Int32) (o : Nat) (s : Sh) : Prop := f o = nI s.1.length ∧ f (o + 1) = nI s.2.1 ∧ f (o + 2) = oI s.2.2 ∧ SBd s ∧ ∀ e, e < s.1.length → EncE f (o + 3 + 36 * e) (en s e) ∧ okE (en s e)
theorem EncE.cp {f g : Nat → Int32} {a b : Nat} {p} (x : EncE f a p) (hp : okE p) (h : ∀ k, k < 36 → g (b + k) = f (a + k)) : EncE g b p := by
  obtain ⟨x1, x2, x3, x4⟩ := x
  have h0 := h 0 (by omega)
  rw [Nat.add_zero, Nat.add_zero] at h0
  refine ⟨h0.trans x1, fun k hk => ?_, (h 32 (by omega)).trans x3, fun k hk => ?_⟩
  · have := hp.1
    rw [Nat.add_assoc, h (1 + k) (by omega), ← Nat.add_assoc]
    exact x2 k hk
  · have := hp.2.1
    rw [Nat.add_assoc, h (33 + k) (by omega), ← Nat.add_assoc]
    exact x4 k hk
theorem Enc.cp {f g : Nat → Int32} {o q : Nat} {s : Sh} (x : Enc f o s) (h : ∀ k, k < 219 → g (q + k) = f (o + k)) : Enc g q s := by
  obtain ⟨x1, x2, x3, x4, x5⟩ := x
  have h6 := x4.1
  have h0 := h 0 (by omega)
  rw [Nat.add_zero, Nat.add_zero] at h0
  refine ⟨h0.trans x1, (h 1 (by omega)).trans x2, (h 2 (by omega)).trans x3, x4, fun e he => ⟨(x5 e he).1.cp (x5 e he).2 (fun k hk => ?_), (x5 e he).2⟩⟩
  have := h (3 + 36 * e + k) (by omega)
  rw [show q + 3 + 36 * e + k = q + (3 + 36 * e + k) by omega, show o + 3 + 36 * e + k = o + (3 + 36 * e + k) by omega]
  exact this
def MObj (h : smH) (M d l q : Nat) : Prop := h.1 M = some (.inr (8, [.ref (M + 1), .ref (M + 2), .int (nI d), .ref (M + 3), .ref (M + 4), .ref (M + 5), .int (nI l), .ref (M + 6), .int (nI q), .ref (M + 7), .ref (M + 8), .ref (M + 9), .ref (M + 10), .ref (M + 11), .ref (M + 12), .ref (M + 13), .ref (M + 14), .ref (M + 15)]))
theorem m107 {X : smX} {h : smH} (x : Int32) {lo hi : Int32} : sm_C PP X 107 [.int x, .int lo, .int hi] h = some (some (.int (bI (decide (lo.toInt ≤ x.toInt ∧ x.toInt ≤ hi.toInt)))), h) := by
  simp only [c107, b107_0, b107_14, b107_15, sm_gI_s, sm_gR_s, sm_gJ_s, sm_cR_s, sm_al_s, sm_sw_s, sm_tl1, sm_tl0, sm_ap0, sm_ap1, List.getElem?_cons_zero, List.getElem?_cons_succ, nk10, nk11, if_true, eq_self, i_lt]
  unfold bI
  by_cases h1 : x.toInt < lo.toInt
  · rw [if_pos h1, if_neg (by simp; omega)]
  · rw [if_neg h1]
    by_cases h2 : hi.toInt < x.toInt
    · rw [if_pos h2, if_neg (by simp; omega)]
    · rw [if_neg h2, if_pos (by simp; omega)]
def mv (f : Nat → Int32) (i : Nat) (g : Nat → Int32) (j n : Nat) : Nat → Int32 := fun x => if j ≤ x ∧ x < j + n then f (i + (x - j)) else g x
theorem mv_in {f g : Nat → Int32} {i j n k : Nat} (hk : k < n) : mv f i g j n (j + k) = f (i + k) := by
  unfold mv
  rw [if_pos (by omega), show i + (j + k - j) = i + k by omega]
theorem mv_out {f g : Nat → Int32} {i j n x : Nat} (hx : x < j ∨ j + n ≤ x) : mv f i g j n x = g x := by
  unfold mv
  rw [if_neg (by omega)]
theorem mv_up {f g : Nat → Int32} {i j k : Nat} : upd (mv f i g j k) (j + k) (f (i + k)) = mv f i g j (k + 1) := by
  funext x
  by_cases e : x = j + k
  · rw [e, pk_us, mv_in (by omega)]
  · rw [pk_un e]
    unfold mv
    by_cases h : j ≤ x ∧ x < j + k
    · rw [if_pos h, if_pos (by omega)]
    · rw [if_neg h, if_neg (by omega)]
theorem m113_loop {X : smX} {a b i j n la lb : Nat} {f g : Nat → Int32} (hi : i + n ≤ la) (hj : j + n ≤ lb) (hla : la < 10000) (hlb : lb < 10000) (hab : a ≠ b ∨ (a = b ∧ la = lb ∧ f = g ∧ j ≤ i)) : ∀ (d k : Nat), k + d = n → ∀ h : smH, (a ≠ b → IA h a la f) → IA h b lb (mv f i g j k) → ∃ h', sm_E PP X 113 3 [(0, .ref a), (1, .int (nI i)), (2, .ref b), (3, .int (nI j)), (4, .int (nI n)), (5, .int (nI k))] [] h = some (none, h') ∧ IA h' b lb (mv f i g j n) ∧ Fr h h' b (b + 1) := by
  intro d
  induction d with
  | zero =>
    intro k hk h ha hb
    refine ⟨h, ?_, by rw [← hk]; exact hb, Fr.rf⟩
    rw [b113_3, if_pos (nI_le (by omega) (by omega))]
  | succ d ih =>
    intro k hk h ha hb
    have hld : ∀ κ : Int32 → smR, sm_ld (sm_ar PP X h (.ref a)) .int (nI (i + k)) κ = κ (f (i + k)) := fun κ => by
      by_cases hne : a = b
      · rcases hab with q | ⟨q1, q2, q3, q4⟩
        · exact absurd hne q
        · subst q1
          subst q2
          subst q3
          rw [aO hb, ldO (by omega) (by omega)]
          rw [mv_out (by omega)]
      · rw [aO (ha hne), ldO (by omega) (by omega)]
    have k1 : Fr h (sm_w h b (.inl (.int, lb, .inl (mv f i g j (k + 1))))) b (b + 1) := Fr.w
    obtain ⟨h2, e2, q2, k2⟩ := ih (k + 1) (by omega) _ (fun hne => (ha hne).fr k1 (by omega)) (w_eq : IA (sm_w h b (.inl (.int, lb, .inl (mv f i g j (k + 1))))) b lb (mv f i g j (k + 1)))
    refine ⟨h2, ?_, q2, k1.s k2⟩
    rw [b113_3, if_neg (nI_ge (by omega) (by omega)), nI_add, nI_add, hld, stO hb (by omega) (by omega), mv_up, nI_add]
    exact e2
theorem mv_0 {f g : Nat → Int32} {i j : Nat} : mv f i g j 0 = g := by
  funext x
  exact mv_out (by omega)
theorem m113 {X : smX} {h : smH} {a b i j n la lb : Nat} {f g : Nat → Int32} (hi : i + n ≤ la) (hj : j + n ≤ lb) (hla : la < 10000) (hlb : lb < 10000) (hab : a ≠ b) (ha : IA h a la f) (hb : IA h b lb g) : ∃ h', sm_C PP X 113 [.ref a, .int (nI i), .ref b, .int (nI j), .int (nI n)] h = some (none, h') ∧ IA h' b lb (mv f i g j n) ∧ Fr h h' b (b + 1) := by
  rw [c113, b113_0]
  exact m113_loop hi hj hla hlb (Or.inl hab) n 0 (by omega) h (fun _ => ha) (by rw [mv_0]; exact hb)
theorem m113s {X : smX} {h : smH} {a i j n la : Nat} {f : Nat → Int32} (hi : i + n ≤ la) (hj : j ≤ i) (hla : la < 10000) (ha : IA h a la f) : ∃ h', sm_C PP X 113 [.ref a, .int (nI i), .ref a, .int (nI j), .int (nI n)] h = some (none, h') ∧ IA h' a la (mv f i f j n) ∧ Fr h h' a (a + 1) := by
  rw [c113, b113_0]
  exact m113_loop hi (by omega) hla hla (Or.inr ⟨rfl, rfl, rfl, hj⟩) n 0 (by omega) h (fun q => absurd rfl q) (by rw [mv_0]; exact ha)
theorem m118 {X : smX} {h : smH} {e f : Nat} (he : e < 100) (hf : f < 2) : sm_C PP X 118 [.int (nI e), .int (nI f)] h = some (some (.int (nI (3 + 36 * e + 32 * f))), h) := by
  rw [c118, b118_0, pk_mul, nI_add]
  by_cases h1 : f = 1
  · subst h1
    rw [if_pos rfl, b118_17, nI_add]
  · obtain rfl : f = 0 := by omega
    rw [if_neg (by decide), b118_17, nI_add]
