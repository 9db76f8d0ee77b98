/-! constructors -/
theorem n_eq {h : smH} {e : smC} {k : Nat} : (sm_n h e k).1 h.2.1 = some e := if_pos rfl
theorem n_ne {h : smH} {e : smC} {k b : Nat} (hb : b ≠ h.2.1) : (sm_n h e k).1 b = h.1 b := if_neg hb
/-- n cells more, k slots more; all below lo, and all behind, as they were -/
def Nx (h h' : smH) (lo n k : Nat) : Prop := h'.2 = (h.2.1 + n, h.2.2 + k) ∧ ∀ a, a < lo ∨ h.2.1 + n ≤ a → h'.1 a = h.1 a
theorem Nx.fr {h h' : smH} {lo n k : Nat} (f : Nx h h' lo n k) : Fr h (h'.1, h.2) lo (h.2.1 + n) := ⟨rfl, f.2⟩
theorem Nx.tr {h h1 h2 : smH} {lo lo1 lo2 n1 n2 k1 k2 : Nat} (f1 : Nx h h1 lo1 n1 k1) (f2 : Nx h1 h2 lo2 n2 k2) (a1 : lo ≤ lo1) (a2 : lo ≤ lo2) : Nx h h2 lo (n1 + n2) (k1 + k2) := by
  obtain ⟨b1, c1⟩ := f1
  obtain ⟨b2, c2⟩ := f2
  rw [b1] at b2 c2
  refine ⟨by rw [b2]; show (h.2.1 + n1 + n2, h.2.2 + k1 + k2) = _; rw [Nat.add_assoc, Nat.add_assoc], fun a ha => ?_⟩
  rw [c2 a (by show a < lo2 ∨ h.2.1 + n1 + n2 ≤ a; omega), c1 a (by omega)]
theorem Nx.n {h : smH} {e : smC} {k : Nat} : Nx h (sm_n h e k) h.2.1 1 k := ⟨rfl, fun a ha => n_ne (by omega)⟩
theorem Nx.w {h : smH} {a : Nat} {e : smC} (ha : a < h.2.1) : Nx h (sm_w h a e) a 0 0 := ⟨rfl, fun b hb => w_ne (by omega)⟩
theorem Nx.to {h h' : smH} {lo lo2 n n2 k k2 : Nat} (f : Nx h h' lo n k) (a : lo2 ≤ lo) (b : n = n2) (c : k = k2) : Nx h h' lo2 n2 k2 := by
  subst b
  subst c
  exact ⟨f.1, fun x hx => f.2 x (by omega)⟩
theorem Nx.s {h h1 h2 : smH} {lo n1 n2 k1 k2 : Nat} (f1 : Nx h h1 lo n1 k1) (f2 : Nx h1 h2 lo n2 k2) : Nx h h2 lo (n1 + n2) (k1 + k2) := f1.tr f2 (Nat.le_refl _) (Nat.le_refl _)
theorem Nx.rf {h : smH} {lo : Nat} : Nx h h lo 0 0 := ⟨rfl, fun _ _ => rfl⟩
theorem Nx.nl {h : smH} {e : smC} {k lo : Nat} (a : lo ≤ h.2.1) : Nx h (sm_n h e k) lo 1 k := Nx.n.to a rfl rfl
theorem Nx.wl {h : smH} {a lo : Nat} {e : smC} (ha : a < h.2.1) (hl : lo ≤ a) : Nx h (sm_w h a e) lo 0 0 := (Nx.w ha).to hl rfl rfl
theorem m0 {X : smX} {h : smH} {t : Nat} (ht : h.1 t = some (.inr (6, PP.2.2.1 6))) (hn : h.2.1 = t + 1) : ∃ h', sm_C PP X 0 [.ref t] h = some (none, h') ∧ TextAt h' t [] ∧ Nx h h' t 1 40 := by
  have a1 : (sm_n h (.inl (.char, 40, .inl (fun _ => 0))) 40).1 t = _ := (n_ne (by omega)).trans ht
  have a2 : (sm_w (sm_n h (.inl (.char, 40, .inl (fun _ => 0))) 40) t (.inr (6, (PP.2.2.1 6).set 0 (.ref h.2.1)))).1 t = _ := w_eq
  have k : Nx h (sm_w (sm_w (sm_n h (.inl (.char, 40, .inl (fun _ => 0))) 40) t (.inr (6, (PP.2.2.1 6).set 0 (.ref h.2.1)))) t (.inr (6, ((PP.2.2.1 6).set 0 (.ref h.2.1)).set 1 (.int (nI 0))))) t 1 40 := ((Nx.nl (by omega)).s (Nx.w (by show t < h.2.1 + 1; omega))).s (Nx.w (by show t < h.2.1 + 1; omega))
  refine ⟨_, ?_, ⟨?_, ⟨by show 0 ≤ 40; omega, fun k => by show 0 < 256; omega⟩, (fun _ => 0), ?_, fun k _ => ⟨0, by omega, rfl⟩, fun k hk => absurd hk (Nat.not_lt_zero k)⟩, k⟩
  · rw [c0, b0_0, if_neg (by decide)]
    show sm_fP (sm_n h (.inl (.char, 40, .inl (fun _ => 0))) 40) t 6 0 (.ref h.2.1) _ = _
    rw [pO a1 (by decide), pO a2 (by rw [List.length_set]; decide)]
  · rw [w_eq, hn]
    rfl
  · rw [w_ne (by omega), w_ne (by omega), ← hn]
    exact n_eq
theorem m1 {X : smX} {h : smH} {t c : Nat} (ht : h.1 t = some (.inr (4, PP.2.2.1 4))) (hn : h.2.1 = t + 1) (hc : c ≤ 31) : ∃ h', sm_C PP X 1 [.ref t, .int (nI c)] h = some (none, h') ∧ RowAt h' t c [] ∧ Nx h h' t 1 c := by
  have a0 : (sm_w h t (.inr (4, (PP.2.2.1 4).set 1 (.int (nI 0))))).1 t = _ := w_eq
  have a1 : (sm_n (sm_w h t (.inr (4, (PP.2.2.1 4).set 1 (.int (nI 0))))) (.inl (.char, c, .inl (fun _ => 0))) c).1 t = _ := (n_ne (by show t ≠ h.2.1; omega)).trans a0
  have k : Nx h (sm_w (sm_n (sm_w h t (.inr (4, (PP.2.2.1 4).set 1 (.int (nI 0))))) (.inl (.char, c, .inl (fun _ => 0))) c) t (.inr (4, ((PP.2.2.1 4).set 1 (.int (nI 0))).set 0 (.ref h.2.1)))) t 1 c := (((Nx.w (h := h) (a := t) (by omega)).s (Nx.nl (by show t ≤ h.2.1; omega))).s (Nx.w (by show t < h.2.1 + 1; omega))).to (Nat.le_refl _) rfl (by omega)
  refine ⟨_, ?_, ⟨?_, ⟨by show 0 ≤ c; omega, hc, fun k => by show 0 < 256; omega⟩, (fun _ => 0), ?_, fun k _ => ⟨0, by omega, rfl⟩, fun k hk => absurd hk (Nat.not_lt_zero k)⟩, k⟩
  · rw [c1, b1_0, pO ht (by decide), if_neg (show ¬ nI c < nI 0 from nI_nlt (by omega) (by omega)), if_neg (by rw [nI_clamp (by omega)]; rintro (q | q); exact nI_pos (by omega) q; omega), nI_clamp (by omega), pO a1 (by rw [List.length_set]; decide)]
    rfl
  · rw [w_eq]
    show some (Sum.inr (4, [Value.ref h.2.1, .int (nI 0)])) = _
    rw [hn]
    rfl
  · rw [w_ne (by omega), ← hn]
    exact n_eq
theorem stR {h : smH} {a i v n c : Nat} {ty : FieldType} {f : Nat → Option Nat} {fs : List Value} {κ : smH → smR} (hh : h.1 a = some (.inl (ty, n, .inr (.inr (.inr (.inr f)))))) (hv : h.1 v = some (.inr (c, fs))) (ht : ty = PP.2.2.2.1 c) (hi : i < n) (hn : n < 2 ^ 31) : sm_stR PP h a (nI i) v κ = κ (sm_w h a (.inl (ty, n, .inr (.inr (.inr (.inr (va_up f i (some v)))))))) := by
  unfold sm_stR
  rw [hh]
  show (match h.1 v with
    | some (.inr (c, _)) => if ty = PP.2.2.2.1 c then (if nI i < 0 ∨ n ≤ (nI i).toNatClampNeg then none else κ (sm_w h a (.inl (ty, n, .inr (.inr (.inr (.inr (va_up f (nI i).toNatClampNeg (some v))))))))) else none
    | _ => none) = _
  rw [hv]
  show (if ty = PP.2.2.2.1 c then (if nI i < 0 ∨ n ≤ (nI i).toNatClampNeg then none else κ (sm_w h a (.inl (ty, n, .inr (.inr (.inr (.inr (va_up f (nI i).toNatClampNeg (some v))))))))) else none) = _
  rw [if_pos ht, if_neg (nI_rng hi hn), nI_clamp (by omega)]
theorem RowAt.nx {h h' : smH} {r cap lo n k : Nat} {ws} (x : RowAt h r cap ws) (f : Nx h h' lo n k) (hd : r + 2 ≤ lo) : RowAt h' r cap ws := x.kept (f.2 _ (by omega)) (f.2 _ (by omega))
theorem SheetAt.nx {h h' : smH} {S lo n k : Nat} {s} (x : SheetAt h S s) (f : Nx h h' lo n k) (hd : S + 27 ≤ lo) : SheetAt h' S s := by
  have q := x.fr f.fr (Or.inl hd)
  exact q
theorem m2_loop {X : smX} {a c : Nat} (hc : c ≤ 31) : ∀ (d i : Nat), i + d = 6 → ∀ (h : smH) (f : Nat → Option Nat), h.2.1 = a + 1 + 2 * i → h.1 a = some (.inl (PP.2.2.2.1 4, 6, .inr (.inr (.inr (.inr f))))) → (∀ j, j < i → f j = some (a + 1 + 2 * j) ∧ RowAt h (a + 1 + 2 * j) c []) → ∃ h' f', sm_E PP X 2 8 [(0, .int (nI c)), (1, .ref a), (2, .int (nI i))] [] h = some (some (.ref a), h') ∧ h'.1 a = some (.inl (PP.2.2.2.1 4, 6, .inr (.inr (.inr (.inr f'))))) ∧ (∀ j, j < 6 → f' j = some (a + 1 + 2 * j) ∧ RowAt h' (a + 1 + 2 * j) c []) ∧ Nx h h' a (2 * d) ((2 + c) * d) := by
  intro d
  induction d with
  | zero =>
    intro i hi h f hn ha hf
    refine ⟨h, f, ?_, ha, fun j hj => hf j (by omega), Nx.rf⟩
    rw [b2_8, aO ha]
    simp only [sm_gI_s, sm_gR_s, sm_gJ_s, sm_cR_s, sm_al_s, sm_sw_s, sm_tl1, sm_tl0, sm_ap0, sm_ap1, List.getElem?_cons_zero, List.getElem?_cons_succ, nk10, nk11, if_true, eq_self]
    rw [if_pos (nI_le (by omega) (by omega))]
  | succ d ih =>
    intro i hi h f hn ha hf
    have k1 : Nx h (sm_n h (.inr (4, PP.2.2.1 4)) (PP.2.2.1 4).length) h.2.1 1 2 := Nx.n
    obtain ⟨h1, e1, q1, k2⟩ := m1 (X := X) (h := sm_n h (.inr (4, PP.2.2.1 4)) (PP.2.2.1 4).length) (t := h.2.1) n_eq rfl hc
    have k3 := k1.s k2
    have a1 : h1.1 a = _ := (k3.2 a (by omega)).trans ha
    have n1 : h1.2.1 = h.2.1 + 2 := by rw [k3.1]
    have k4 : Nx h1 (sm_w h1 a (.inl (PP.2.2.2.1 4, 6, .inr (.inr (.inr (.inr (va_up f i (some h.2.1)))))))) a 0 0 := Nx.w (by omega)
    obtain ⟨h2, f2, e2, x2, g2, k5⟩ := ih (i + 1) (by omega) (sm_w h1 a (.inl (PP.2.2.2.1 4, 6, .inr (.inr (.inr (.inr (va_up f i (some h.2.1)))))))) (va_up f i (some h.2.1)) (by show h1.2.1 = _; omega) w_eq (fun j hj => by
      by_cases e : j = i
      · rw [e, va_up_self, hn]
        refine ⟨rfl, ?_⟩
        rw [← hn]
        exact q1.kept (w_ne (by omega)) (w_ne (by omega))
      · rw [va_up_ne _ _ e]
        exact ⟨(hf j (by omega)).1, ((hf j (by omega)).2.nx k3 (by omega)).kept (w_ne (by omega)) (w_ne (by omega))⟩)
    refine ⟨h2, f2, ?_, x2, g2, (((k3.to (lo2 := a) (by omega) rfl rfl).s k4).s k5).to (Nat.le_refl _) (by omega) (by rw [Nat.mul_succ]; omega)⟩
    rw [b2_8, aO ha]
    simp only [sm_gI_s, sm_gR_s, sm_gJ_s, sm_cR_s, sm_al_s, sm_sw_s, sm_tl1, sm_tl0, sm_ap0, sm_ap1, List.getElem?_cons_zero, List.getElem?_cons_succ, nk10, nk11, if_true, eq_self]
    rw [if_neg (nI_ge (by omega) (by omega)), e1]
    simp only [sm_gI_s, sm_gR_s, sm_gJ_s, sm_cR_s, sm_al_s, sm_sw_s, sm_tl1, sm_tl0, sm_ap0, sm_ap1, List.getElem?_cons_zero, List.getElem?_cons_succ, nk10, nk11, if_true, eq_self, b2_24]
    rw [stR a1 q1.1 rfl (by omega) (by omega), nI_add]
    exact e2
/-- newRows -/
theorem m2 {X : smX} {h : smH} {c : Nat} (hc : c ≤ 31) : ∃ h' f', sm_C PP X 2 [.int (nI c)] h = some (some (.ref h.2.1), h') ∧ h'.1 h.2.1 = some (.inl (PP.2.2.2.1 4, 6, .inr (.inr (.inr (.inr f'))))) ∧ (∀ j, j < 6 → f' j = some (h.2.1 + 1 + 2 * j) ∧ RowAt h' (h.2.1 + 1 + 2 * j) c []) ∧ Nx h h' h.2.1 13 (6 + (2 + c) * 6) := by
  obtain ⟨h1, f1, e1, x1, g1, k1⟩ := m2_loop (X := X) (a := h.2.1) hc 6 0 (by omega) (sm_n h (.inl (PP.2.2.2.1 4, 6, .inr (.inr (.inr (.inr (fun _ => none)))))) 6) (fun _ => none) rfl n_eq (fun j hj => by omega)
  refine ⟨h1, f1, ?_, x1, g1, ((Nx.n).s k1)⟩
  rw [c2, b2_0, if_neg (by decide)]
  exact e1
theorem isRef4 : (PP.2.2.2.1 4).isReference = true := rfl
theorem isRef5 : (PP.2.2.2.1 5).isReference = true := rfl
theorem isRef0 : (PP.2.2.2.1 0).isReference = true := rfl
/-- Sheet -/
theorem m3 {X : smX} {h : smH} {S : Nat} (hS : h.1 S = some (.inr (5, PP.2.2.1 5))) (hn : h.2.1 = S + 1) : ∃ h', sm_C PP X 3 [.ref S] h = some (none, h') ∧ SheetAt h' S ([], 0, none) ∧ Nx h h' S 26 240 := by
  obtain ⟨h1, f1, e1, x1, g1, k1⟩ := m2 (X := X) (h := h) (c := 31) (by omega)
  rw [hn] at e1 x1 g1 k1
  have s1 : h1.1 S = _ := (k1.2 S (by omega)).trans hS
  have n1 : h1.2.1 = S + 14 := by rw [k1.1]; show h.2.1 + 13 = _; omega
  have k2 : Nx h1 (sm_w h1 S (.inr (5, (PP.2.2.1 5).set 0 (.ref (S + 1))))) S 0 0 := Nx.w (by omega)
  obtain ⟨h3, f3, e3, x3, g3, k3⟩ := m2 (X := X) (h := sm_w h1 S (.inr (5, (PP.2.2.1 5).set 0 (.ref (S + 1))))) (c := 3) (by omega)
  rw [show (sm_w h1 S (.inr (5, (PP.2.2.1 5).set 0 (.ref (S + 1))))).2.1 = S + 14 from n1] at e3 x3 g3 k3
  have s3 : h3.1 S = _ := (k3.2 S (by omega)).trans w_eq
  have n3 : h3.2.1 = S + 27 := by rw [k3.1]; show h1.2.1 + 13 = _; omega
  have k4 : Nx h3 (sm_w (sm_w (sm_w (sm_w h3 S (.inr (5, ((PP.2.2.1 5).set 0 (.ref (S + 1))).set 1 (.ref (S + 14))))) S (.inr (5, (((PP.2.2.1 5).set 0 (.ref (S + 1))).set 1 (.ref (S + 14))).set 2 (.int (nI 0))))) S (.inr (5, ((((PP.2.2.1 5).set 0 (.ref (S + 1))).set 1 (.ref (S + 14))).set 2 (.int (nI 0))).set 3 (.int (nI 0))))) S (.inr (5, (((((PP.2.2.1 5).set 0 (.ref (S + 1))).set 1 (.ref (S + 14))).set 2 (.int (nI 0))).set 3 (.int (nI 0))).set 4 (.int (-nI 9))))) S 0 0 := (((Nx.w (by omega)).s (Nx.w (by show S < h3.2.1; omega))).s (Nx.w (by show S < h3.2.1; omega))).s (Nx.w (by show S < h3.2.1; omega))
  have k5 : Fr h3 (sm_w (sm_w (sm_w (sm_w h3 S (.inr (5, ((PP.2.2.1 5).set 0 (.ref (S + 1))).set 1 (.ref (S + 14))))) S (.inr (5, (((PP.2.2.1 5).set 0 (.ref (S + 1))).set 1 (.ref (S + 14))).set 2 (.int (nI 0))))) S (.inr (5, ((((PP.2.2.1 5).set 0 (.ref (S + 1))).set 1 (.ref (S + 14))).set 2 (.int (nI 0))).set 3 (.int (nI 0))))) S (.inr (5, (((((PP.2.2.1 5).set 0 (.ref (S + 1))).set 1 (.ref (S + 14))).set 2 (.int (nI 0))).set 3 (.int (nI 0))).set 4 (.int (-nI 9))))) S (S + 1) := ((Fr.w.s Fr.w).s Fr.w).s Fr.w
  refine ⟨_, ?_, ⟨⟨?_, ⟨_, f1, isRef4, ?_, fun i hi => ?_⟩, ⟨_, f3, isRef4, ?_, fun i hi => ?_⟩⟩, ⟨by show 0 ≤ 6; omega, by show 0 ≤ 2; omega, fun t ht => by cases ht⟩, (fun _ => ([], [])), fun i hi => ⟨?_, ?_⟩, fun i hi => absurd hi (Nat.not_lt_zero i)⟩, (((k1.to (lo2 := S) (by omega) rfl rfl).s k2).s (k3.to (lo2 := S) (by omega) rfl rfl)).s k4⟩
  · rw [c3, b3_0, e1]
    simp only [sm_gI_s, sm_gR_s, sm_gJ_s, sm_cR_s, sm_al_s, sm_sw_s, sm_tl1, sm_tl0, sm_ap0, sm_ap1, List.getElem?_cons_zero, List.getElem?_cons_succ, nk10, nk11, if_true, eq_self, b3_10]
    rw [pO s1 (by decide), e3]
    simp only [sm_gI_s, sm_gR_s, sm_gJ_s, sm_cR_s, sm_al_s, sm_sw_s, sm_tl1, sm_tl0, sm_ap0, sm_ap1, List.getElem?_cons_zero, List.getElem?_cons_succ, nk10, nk11, if_true, eq_self, b3_18]
    rw [pO s3 (by rw [List.length_set]; decide), pO w_eq (by rw [List.length_set, List.length_set]; decide), pO w_eq (by rw [List.length_set, List.length_set, List.length_set]; decide), pO w_eq (by rw [List.length_set, List.length_set, List.length_set, List.length_set]; decide)]
  · rw [w_eq]
    rfl
  · exact (k5.2 _ (by omega)).trans ((k3.2 _ (by omega)).trans ((w_ne (by omega)).trans x1))
  · rw [(g1 i hi).1, show S + 1 + 1 + 2 * i = S + 2 + 2 * i by omega]
  · exact (k5.2 _ (by omega)).trans x3
  · rw [(g3 i hi).1, show S + 14 + 1 + 2 * i = S + 15 + 2 * i by omega]
  · have := (g1 i hi).2
    rw [show S + 1 + 1 + 2 * i = S + 2 + 2 * i by omega] at this
    exact ((this.kept (w_ne (by omega)) (w_ne (by omega))).nx k3 (by omega)).fr k5 (by omega)
  · have := (g3 i hi).2
    rw [show S + 14 + 1 + 2 * i = S + 15 + 2 * i by omega] at this
    exact this.fr k5 (by omega)
