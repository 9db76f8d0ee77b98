/-! constructors: Findings -/
theorem alF {h : smH} {F c k n : Nat} {fs : List Value} {e : smC} (hF : h.1 F = some (.inr (c, fs))) (hn : F < h.2.1) (hk : k < fs.length) : ∃ g : smH, (∀ κ, sm_fP (sm_n h e n) F c k (.ref h.2.1) κ = κ g) ∧ g.1 F = some (.inr (c, fs.set k (.ref h.2.1))) ∧ g.1 h.2.1 = some e ∧ Nx h g F 1 n ∧ ∀ a, a ≠ F → a ≠ h.2.1 → g.1 a = h.1 a :=
  ⟨sm_w (sm_n h e n) F (.inr (c, fs.set k (.ref h.2.1))), fun κ => pO ((n_ne (by omega)).trans hF) hk, w_eq, (w_ne (by omega)).trans n_eq, (Nx.nl (by omega)).s (Nx.w (by show F < h.2.1 + 1; omega)), fun a h1 h2 => (w_ne h1).trans (n_ne h2)⟩
theorem fF {h : smH} {F c k : Nat} {fs : List Value} {v : Value} (hF : h.1 F = some (.inr (c, fs))) (hn : F < h.2.1) (hk : k < fs.length) : ∃ g : smH, (∀ κ, sm_fP h F c k v κ = κ g) ∧ g.1 F = some (.inr (c, fs.set k v)) ∧ Nx h g F 0 0 ∧ ∀ a, a ≠ F → g.1 a = h.1 a :=
  ⟨sm_w h F (.inr (c, fs.set k v)), fun κ => pO hF hk, w_eq, Nx.w hn, fun a h1 => w_ne h1⟩
theorem mnF {h : smH} {F c k n m : Nat} {fs : List Value} (hF : h.1 F = some (.inr (c, fs))) (hn : F < h.2.1) (hk : k < fs.length) : ∃ g : smH, (∀ κ, sm_fP (sm_mn h n m) F c k (.ref h.2.1) κ = κ g) ∧ g.1 F = some (.inr (c, fs.set k (.ref h.2.1))) ∧ g.1 h.2.1 = some (.inl (.array .int, n, .inr (.inr (.inr (.inr (fun i => if i < n then some (h.2.1 + 1 + i) else none)))))) ∧ (∀ i, i < n → g.1 (h.2.1 + 1 + i) = some (.inl (.int, m, .inl (fun _ => 0)))) ∧ Nx h g F (1 + n) (n + n * m) ∧ ∀ a, a ≠ F → a < h.2.1 → g.1 a = h.1 a := by
  have hm : ∀ a, a < h.2.1 ∨ h.2.1 + (1 + n) ≤ a → (sm_mn h n m).1 a = h.1 a := fun a ha => by
    show (if a = h.2.1 then _ else if h.2.1 < a ∧ a ≤ h.2.1 + n then _ else h.1 a) = _
    rw [if_neg (by omega), if_neg (by omega)]
  refine ⟨sm_w (sm_mn h n m) F (.inr (c, fs.set k (.ref h.2.1))), fun κ => pO ((hm F (by omega)).trans hF) hk, w_eq, (w_ne (by omega)).trans (if_pos rfl), fun i hi => (w_ne (by omega)).trans ?_, ⟨?_, fun a ha => (w_ne (by omega)).trans (hm a (by omega))⟩, fun a h1 h2 => (w_ne h1).trans (hm a (by omega))⟩
  · show (if h.2.1 + 1 + i = h.2.1 then _ else if h.2.1 < h.2.1 + 1 + i ∧ h.2.1 + 1 + i ≤ h.2.1 + n then _ else _) = _
    rw [if_neg (by omega), if_pos (by omega)]
  · show (h.2.1 + 1 + n, h.2.2 + (n + n * m)) = _
    rw [Nat.add_assoc]
theorem AgrAt.nx {h h' : smH} {A lo n k : Nat} {w} (x : AgrAt h A w) (f : Nx h h' lo n k) (hd : A + 3 ≤ lo) : AgrAt h' A w := by
  have q := x.fr f.fr (Or.inl hd)
  exact q
theorem m25_loop {X : smX} {F : Nat} {fs : List Value} (hfs : fs[0]? = some (.ref (F + 1))) : ∀ (d i : Nat), i + d = 6 → ∀ (h : smH) (f : Nat → Option Nat), h.2.1 = F + 13 + 3 * i → h.1 F = some (.inr (1, fs)) → h.1 (F + 1) = some (.inl (PP.2.2.2.1 0, 6, .inr (.inr (.inr (.inr f))))) → (∀ j, j < i → f j = some (F + 13 + 3 * j) ∧ AgrAt h (F + 13 + 3 * j) ([], 0, 0)) → ∃ h' f', sm_E PP X 25 69 [(0, .ref F), (1, .int (nI i))] [] h = some (none, h') ∧ h'.1 (F + 1) = some (.inl (PP.2.2.2.1 0, 6, .inr (.inr (.inr (.inr f'))))) ∧ (∀ j, j < 6 → f' j = some (F + 13 + 3 * j) ∧ AgrAt h' (F + 13 + 3 * j) ([], 0, 0)) ∧ Nx h h' (F + 1) (3 * d) (2005 * d) ∧ ∀ a, F + 1 < a → a < F + 13 → h'.1 a = h.1 a := by
  intro d
  induction d with
  | zero =>
    intro i hi h f hn hF ha hf
    refine ⟨h, f, ?_, ha, fun j hj => hf j (by omega), Nx.rf, fun _ _ _ => rfl⟩
    rw [b25_69, fO hF, hfs, sm_gR_s, aO ha]
    simp only [sm_gI_s, sm_gR_s, sm_gJ_s, sm_cR_s, sm_al_s, sm_sw_s, sm_tl1, sm_tl0, sm_ap0, sm_ap1, List.getElem?_cons_zero, List.getElem?_cons_succ, nk10, nk11, if_true, eq_self]
    rw [if_pos (nI_le (by omega) (by omega))]
  | succ d ih =>
    intro i hi h f hn hF ha hf
    have k1 : Nx h (sm_n h (.inr (0, PP.2.2.1 0)) (PP.2.2.1 0).length) h.2.1 1 5 := Nx.n
    obtain ⟨h1, e1, q1, k2⟩ := m24 (X := X) (h := sm_n h (.inr (0, PP.2.2.1 0)) (PP.2.2.1 0).length) (A := h.2.1) n_eq rfl
    have k3 := k1.s k2
    have a1 : h1.1 (F + 1) = _ := (k3.2 (F + 1) (by omega)).trans ha
    have n1 : h1.2.1 = h.2.1 + 3 := by rw [k3.1]
    have k4 : Nx h1 (sm_w h1 (F + 1) (.inl (PP.2.2.2.1 0, 6, .inr (.inr (.inr (.inr (va_up f i (some h.2.1)))))))) (F + 1) 0 0 := Nx.w (by omega)
    have k6 : Fr h1 (sm_w h1 (F + 1) (.inl (PP.2.2.2.1 0, 6, .inr (.inr (.inr (.inr (va_up f i (some h.2.1)))))))) (F + 1) (F + 2) := Fr.w
    obtain ⟨h2, f2, e2, x2, g2, k5, s5⟩ := ih (i + 1) (by omega) (sm_w h1 (F + 1) (.inl (PP.2.2.2.1 0, 6, .inr (.inr (.inr (.inr (va_up f i (some h.2.1)))))))) (va_up f i (some h.2.1)) (by show h1.2.1 = _; omega) ((k6.2 _ (by omega)).trans ((k3.2 _ (by omega)).trans hF)) w_eq (fun j hj => by
      by_cases e : j = i
      · rw [e, va_up_self, hn]
        refine ⟨rfl, ?_⟩
        rw [hn] at q1 k6
        exact q1.fr k6 (by omega)
      · rw [va_up_ne _ _ e]
        exact ⟨(hf j (by omega)).1, ((hf j (by omega)).2.nx k3 (by omega)).fr k6 (by omega)⟩)
    refine ⟨h2, f2, ?_, x2, g2, (((k3.to (lo2 := F + 1) (by omega) rfl rfl).s k4).s k5).to (Nat.le_refl _) (by omega) (by omega), fun a p1 p2 => (s5 a p1 p2).trans ((k6.2 _ (by omega)).trans (k3.2 _ (by omega)))⟩
    rw [b25_69, fO hF, hfs, sm_gR_s, aO ha]
    simp only [sm_gI_s, sm_gR_s, sm_gJ_s, sm_cR_s, sm_al_s, sm_sw_s, sm_tl1, sm_tl0, sm_ap0, sm_ap1, List.getElem?_cons_zero, List.getElem?_cons_succ, nk10, nk11, if_true, eq_self]
    rw [if_neg (nI_ge (by omega) (by omega)), e1]
    simp only [sm_gI_s, sm_gR_s, sm_gJ_s, sm_cR_s, sm_al_s, sm_sw_s, sm_tl1, sm_tl0, sm_ap0, sm_ap1, List.getElem?_cons_zero, List.getElem?_cons_succ, nk10, nk11, if_true, eq_self, b25_90]
    rw [stR a1 q1.1 rfl (by omega) (by omega), nI_add]
    exact e2
theorem m25 {X : smX} {h : smH} {F : Nat} (hF : h.1 F = some (.inr (1, PP.2.2.1 1))) (hn : h.2.1 = F + 1) : ∃ h', sm_C PP X 25 [.ref F] h = some (none, h') ∧ (∀ s, FdAt h' F false false s) ∧ Nx h h' F 30 60035 := by
  have c6 : (nI 6).toNatClampNeg = 6 := nI_clamp (by omega)
  have c7 : (nI 7).toNatClampNeg = 7 := nI_clamp (by omega)
  have c95 : (nI 5995).toNatClampNeg = 5995 := nI_clamp (by omega)
  have c26 : (nI 26).toNatClampNeg = 26 := nI_clamp (by omega)
  obtain ⟨g1, e1, o1, x1, k1, s1⟩ := alF (k := 0) (n := 6) (e := .inl (PP.2.2.2.1 0, 6, .inr (.inr (.inr (.inr (fun _ => none)))))) hF (by omega) (by decide)
  have n1 : g1.2.1 = F + 2 := by rw [k1.1]; show h.2.1 + 1 = _; omega
  obtain ⟨g2, e2, o2, k2, s2⟩ := fF (k := 1) (v := .int (nI 0)) o1 (by omega) (by rw [List.length_set]; decide)
  have n2 : g2.2.1 = F + 2 := by rw [k2.1]; exact n1
  obtain ⟨g3, e3, o3, x3, y3, k3, s3⟩ := mnF (k := 2) (n := 7) (m := 5995) o2 (by omega) (by rw [List.length_set, List.length_set]; decide)
  have n3 : g3.2.1 = F + 10 := by rw [k3.1]; show g2.2.1 + 8 = _; omega
  obtain ⟨g4, e4, o4, x4, k4, s4⟩ := alF (k := 3) (n := 6) (e := .inl (.int, 6, .inl (fun _ => 0))) o3 (by omega) (by rw [List.length_set, List.length_set, List.length_set]; decide)
  have n4 : g4.2.1 = F + 11 := by rw [k4.1]; show g3.2.1 + 1 = _; omega
  obtain ⟨g5, e5, o5, k5, s5⟩ := fF (k := 4) (v := .int (-nI 9)) o4 (by omega) (by rw [List.length_set, List.length_set, List.length_set, List.length_set]; decide)
  have n5 : g5.2.1 = F + 11 := by rw [k5.1]; exact n4
  obtain ⟨g6, e6, o6, k6, s6⟩ := fF (k := 5) (v := .int (nI 0)) o5 (by omega) (by rw [List.length_set, List.length_set, List.length_set, List.length_set, List.length_set]; decide)
  have n6 : g6.2.1 = F + 11 := by rw [k6.1]; exact n5
  obtain ⟨g7, e7, o7, x7, k7, s7⟩ := alF (k := 6) (n := 5995) (e := .inl (.boolean, 5995, .inl (fun _ => 0))) o6 (by omega) (by rw [List.length_set, List.length_set, List.length_set, List.length_set, List.length_set, List.length_set]; decide)
  have n7 : g7.2.1 = F + 12 := by rw [k7.1]; show g6.2.1 + 1 = _; omega
  obtain ⟨g8, e8, o8, x8, k8, s8⟩ := alF (k := 7) (n := 26) (e := .inl (.int, 26, .inl (fun _ => 0))) o7 (by omega) (by rw [List.length_set, List.length_set, List.length_set, List.length_set, List.length_set, List.length_set, List.length_set]; decide)
  have n8 : g8.2.1 = F + 13 := by rw [k8.1]; show g7.2.1 + 1 = _; omega
  rw [hn] at x1 s1
  rw [n2] at x3 y3 s3
  rw [n3] at x4 s4
  rw [n6] at x7 s7
  rw [n7] at x8 s8
  have hO : g8.1 F = some (.inr (1, [.ref (F + 1), .int (nI 0), .ref (F + 2), .ref (F + 10), .int (-nI 9), .int (nI 0), .ref (F + 11), .ref (F + 12)])) := by
    rw [o8, hn, n2, n3, n6, n7]
    rfl
  have hx1 : g8.1 (F + 1) = some (.inl (PP.2.2.2.1 0, 6, .inr (.inr (.inr (.inr (fun _ => none)))))) := by
    rw [s8 _ (by omega) (by omega), s7 _ (by omega) (by omega), s6 _ (by omega), s5 _ (by omega), s4 _ (by omega) (by omega), s3 _ (by omega) (by omega), s2 _ (by omega)]
    exact x1
  obtain ⟨h9, f9, e9, x9, y9, k9, s9⟩ := m25_loop (X := X) (F := F) rfl 6 0 (by omega) g8 (fun _ => none) (by omega) hO hx1 (fun j hj => by omega)
  have hO9 : h9.1 F = _ := (k9.2 _ (by omega)).trans hO
  have hx3 := (s9 (F + 2) (by omega) (by omega)).trans ((s8 (F + 2) (by omega) (by omega)).trans ((s7 (F + 2) (by omega) (by omega)).trans ((s6 (F + 2) (by omega)).trans ((s5 (F + 2) (by omega)).trans ((s4 (F + 2) (by omega) (by omega)).trans x3)))))
  refine ⟨h9, ?_, fun s => ⟨-nI 9, (fun _ => ([], 0, 0)), ⟨⟨hO9, ⟨_, f9, isRef0, x9, fun i hi => (y9 i hi).1⟩, ⟨_, _, rfl, hx3, fun i hi => ?_⟩⟩, ⟨fun i hi => ⟨(fun _ => 0), ?_⟩, ⟨(fun _ => 0), ?_⟩, ⟨(fun _ => 0), ?_⟩, (fun _ => 0), ?_⟩, fun e he => (y9 e he).2, fun h => by cases h⟩, fun h => by cases h⟩, (((((((k1.s k2).s k3).s k4).s k5).s k6).s k7).s k8 |>.s (k9.to (lo2 := F) (by omega) rfl rfl)).to (Nat.le_refl _) rfl rfl⟩
  · rw [c25, b25_0]
    simp only [c6, c7, c95, c26]
    rw [if_neg (by decide), e1, if_pos (nf11 0 (Or.inl rfl)), e2, if_neg (by decide), e3, if_neg (by decide), e4, e5, if_pos (nf15 0 (Or.inl rfl)), e6, if_neg (by decide), e7, if_neg (by decide), e8]
    exact e9
  · show (if i < 7 then some (F + 2 + 1 + i) else none) = _
    rw [if_pos hi]
  · show h9.1 (F + 3 + i) = _
    rw [s9 _ (by omega) (by omega), s8 _ (by omega) (by omega), s7 _ (by omega) (by omega), s6 _ (by omega), s5 _ (by omega), s4 _ (by omega) (by omega)]
    exact y3 i hi
  · show h9.1 (F + 10) = _
    rw [s9 _ (by omega) (by omega), s8 _ (by omega) (by omega), s7 _ (by omega) (by omega), s6 _ (by omega), s5 _ (by omega)]
    exact x4
  · rw [s9 _ (by omega) (by omega), s8 _ (by omega) (by omega)]
    exact x7
  · show h9.1 (F + 12) = _
    rw [s9 _ (by omega) (by omega)]
    exact x8
