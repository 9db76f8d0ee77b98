/-! constructors: rows of sheets, History, Agreeing, Findings, WornSums -/
theorem m4_loop {X : smX} {a c : Nat} (hc : c ≤ 8) : ∀ (d i : Nat), i + d = c → ∀ (h : smH) (f : Nat → Option Nat), h.2.1 = a + 1 + 27 * i → h.1 a = some (.inl (PP.2.2.2.1 5, c, .inr (.inr (.inr (.inr f))))) → (∀ j, j < i → f j = some (a + 1 + 27 * j) ∧ SheetAt h (a + 1 + 27 * j) ([], 0, none)) → ∃ h' f', sm_E PP X 4 11 [(1, .ref a), (2, .int (nI i))] [] h = some (some (.ref a), h') ∧ h'.1 a = some (.inl (PP.2.2.2.1 5, c, .inr (.inr (.inr (.inr f'))))) ∧ (∀ j, j < c → f' j = some (a + 1 + 27 * j) ∧ SheetAt h' (a + 1 + 27 * j) ([], 0, none)) ∧ Nx h h' a (27 * d) (245 * d) := by
  intro d
  induction d with
  | zero =>
    intro i hi h f hn ha hf
    refine ⟨h, f, ?_, ha, fun j hj => hf j (by omega), Nx.rf⟩
    rw [b4_11, aO ha]
    simp only [sm_gI_s, sm_gR_s, sm_gJ_s, sm_cR_s, sm_al_s, sm_sw_s, sm_tl1, sm_tl0, sm_ap0, sm_ap1, List.getElem?_cons_zero, List.getElem?_cons_succ, nk10, nk11, if_true, eq_self]
    rw [if_pos (nI_le (by omega) (by omega))]
  | succ d ih =>
    intro i hi h f hn ha hf
    have k1 : Nx h (sm_n h (.inr (5, PP.2.2.1 5)) (PP.2.2.1 5).length) h.2.1 1 5 := Nx.n
    obtain ⟨h1, e1, q1, k2⟩ := m3 (X := X) (h := sm_n h (.inr (5, PP.2.2.1 5)) (PP.2.2.1 5).length) (S := h.2.1) n_eq rfl
    have k3 := k1.s k2
    have a1 : h1.1 a = _ := (k3.2 a (by omega)).trans ha
    have n1 : h1.2.1 = h.2.1 + 27 := by rw [k3.1]
    have k4 : Nx h1 (sm_w h1 a (.inl (PP.2.2.2.1 5, c, .inr (.inr (.inr (.inr (va_up f i (some h.2.1)))))))) a 0 0 := Nx.w (by omega)
    have k6 : Fr h1 (sm_w h1 a (.inl (PP.2.2.2.1 5, c, .inr (.inr (.inr (.inr (va_up f i (some h.2.1)))))))) a (a + 1) := Fr.w
    obtain ⟨h2, f2, e2, x2, g2, k5⟩ := ih (i + 1) (by omega) (sm_w h1 a (.inl (PP.2.2.2.1 5, c, .inr (.inr (.inr (.inr (va_up f i (some h.2.1)))))))) (va_up f i (some h.2.1)) (by show h1.2.1 = _; omega) w_eq (fun j hj => by
      by_cases e : j = i
      · rw [e, va_up_self, hn]
        refine ⟨rfl, ?_⟩
        rw [hn] at q1 k6
        exact q1.fr k6 (by omega)
      · rw [va_up_ne _ _ e]
        exact ⟨(hf j (by omega)).1, ((hf j (by omega)).2.nx k3 (by omega)).fr k6 (by omega)⟩)
    refine ⟨h2, f2, ?_, x2, g2, (((k3.to (lo2 := a) (by omega) rfl rfl).s k4).s k5).to (Nat.le_refl _) (by omega) (by omega)⟩
    rw [b4_11, aO ha]
    simp only [sm_gI_s, sm_gR_s, sm_gJ_s, sm_cR_s, sm_al_s, sm_sw_s, sm_tl1, sm_tl0, sm_ap0, sm_ap1, List.getElem?_cons_zero, List.getElem?_cons_succ, nk10, nk11, if_true, eq_self]
    rw [if_neg (nI_ge (by omega) (by omega)), e1]
    simp only [sm_gI_s, sm_gR_s, sm_gJ_s, sm_cR_s, sm_al_s, sm_sw_s, sm_tl1, sm_tl0, sm_ap0, sm_ap1, List.getElem?_cons_zero, List.getElem?_cons_succ, nk10, nk11, if_true, eq_self, b4_26]
    rw [stR a1 q1.1.1 rfl (by omega) (by omega), nI_add]
    exact e2
theorem m4 {X : smX} {h : smH} {c : Nat} (hc : c ≤ 8) : ∃ h' f', sm_C PP X 4 [.int (nI c)] h = some (some (.ref h.2.1), h') ∧ h'.1 h.2.1 = some (.inl (PP.2.2.2.1 5, c, .inr (.inr (.inr (.inr f'))))) ∧ (∀ j, j < c → f' j = some (h.2.1 + 1 + 27 * j) ∧ SheetAt h' (h.2.1 + 1 + 27 * j) ([], 0, none)) ∧ Nx h h' h.2.1 (1 + 27 * c) (c + 245 * c) := by
  obtain ⟨h1, f1, e1, x1, g1, k1⟩ := m4_loop (X := X) (a := h.2.1) hc c 0 (by omega) (sm_n h (.inl (PP.2.2.2.1 5, c, .inr (.inr (.inr (.inr (fun _ => none)))))) c) (fun _ => none) rfl n_eq (fun j hj => by omega)
  refine ⟨h1, f1, ?_, x1, g1, ((Nx.n).s k1)⟩
  rw [c4, b4_0, if_neg (show ¬ nI c < nI 0 from nI_nlt (by omega) (by omega)), if_neg (by rw [nI_clamp (by omega)]; rintro (q | q); exact nI_pos (by omega) q; omega), nI_clamp (by omega)]
  exact e1
theorem m5 {X : smX} {h : smH} {H : Nat} (hH : h.1 H = some (.inr (2, PP.2.2.1 2))) (hn : h.2.1 = H + 1) : ∃ h', sm_C PP X 5 [.ref H] h = some (none, h') ∧ HistAt h' H [] ∧ Nx h h' H 217 1968 := by
  obtain ⟨h1, f1, e1, x1, g1, k1⟩ := m4 (X := X) (h := h) (c := 8) (by omega)
  rw [hn] at e1 x1 g1 k1
  have s1 : h1.1 H = _ := (k1.2 H (by omega)).trans hH
  have n1 : h1.2.1 = H + 1 + 217 := by rw [k1.1]; show h.2.1 + 217 = _; omega
  have k4 : Nx h1 (sm_w (sm_w (sm_w h1 H (.inr (2, (PP.2.2.1 2).set 0 (.ref (H + 1))))) H (.inr (2, ((PP.2.2.1 2).set 0 (.ref (H + 1))).set 1 (.int (nI 0))))) H (.inr (2, (((PP.2.2.1 2).set 0 (.ref (H + 1))).set 1 (.int (nI 0))).set 2 (.int (nI 0))))) H 0 0 := ((Nx.w (by omega)).s (Nx.w (by show H < h1.2.1; omega))).s (Nx.w (by show H < h1.2.1; omega))
  have k5 : Fr h1 (sm_w (sm_w (sm_w h1 H (.inr (2, (PP.2.2.1 2).set 0 (.ref (H + 1))))) H (.inr (2, ((PP.2.2.1 2).set 0 (.ref (H + 1))).set 1 (.int (nI 0))))) H (.inr (2, (((PP.2.2.1 2).set 0 (.ref (H + 1))).set 1 (.int (nI 0))).set 2 (.int (nI 0))))) H (H + 1) := (Fr.w.s Fr.w).s Fr.w
  refine ⟨_, ?_, ⟨0, (fun _ => ([], 0, none)), ?_, ⟨_, f1, isRef5, (k5.2 _ (by omega)).trans x1, fun i hi => ?_⟩, by omega, by show 0 ≤ 8; omega, fun j hj => ?_, fun j hj => absurd hj (Nat.not_lt_zero j)⟩, ((k1.to (lo2 := H) (by omega) rfl rfl).s k4).to (Nat.le_refl _) rfl rfl⟩
  · rw [c5, b5_0, e1]
    simp only [sm_gI_s, sm_gR_s, sm_gJ_s, sm_cR_s, sm_al_s, sm_sw_s, sm_tl1, sm_tl0, sm_ap0, sm_ap1, List.getElem?_cons_zero, List.getElem?_cons_succ, nk10, nk11, if_true, eq_self, b5_10]
    rw [pO s1 (by decide), pO w_eq (by rw [List.length_set]; decide), pO w_eq (by rw [List.length_set, List.length_set]; decide)]
  · rw [w_eq]
    rfl
  · rw [(g1 i hi).1, show H + 1 + 1 + 27 * i = H + 2 + 27 * i by omega]
  · have := (g1 j hj).2
    rw [show H + 1 + 1 + 27 * j = H + 2 + 27 * j by omega] at this
    exact this.fr k5 (by omega)
theorem m24 {X : smX} {h : smH} {A : Nat} (hA : h.1 A = some (.inr (0, PP.2.2.1 0))) (hn : h.2.1 = A + 1) : ∃ h', sm_C PP X 24 [.ref A] h = some (none, h') ∧ AgrAt h' A ([], 0, 0) ∧ Nx h h' A 2 2000 := by
  have a1 : (sm_n h (.inl (.int, 1000, .inl (fun _ => 0))) 1000).1 A = _ := (n_ne (by omega)).trans hA
  have k1 : Nx h (sm_w (sm_n h (.inl (.int, 1000, .inl (fun _ => 0))) 1000) A (.inr (0, (PP.2.2.1 0).set 0 (.ref h.2.1)))) A 1 1000 := (Nx.nl (by omega)).s (Nx.w (by show A < h.2.1 + 1; omega))
  have n1 : (sm_w (sm_n h (.inl (.int, 1000, .inl (fun _ => 0))) 1000) A (.inr (0, (PP.2.2.1 0).set 0 (.ref h.2.1)))).2.1 = A + 2 := by show h.2.1 + 1 = _; omega
  have x1 : (sm_w (sm_n h (.inl (.int, 1000, .inl (fun _ => 0))) 1000) A (.inr (0, (PP.2.2.1 0).set 0 (.ref h.2.1)))).1 (A + 1) = some (.inl (.int, 1000, .inl (fun _ => 0))) := by rw [w_ne (by omega), ← hn]; exact n_eq
  have a1' : (sm_w (sm_n h (.inl (.int, 1000, .inl (fun _ => 0))) 1000) A (.inr (0, (PP.2.2.1 0).set 0 (.ref h.2.1)))).1 A = _ := w_eq
  generalize hg : (sm_w (sm_n h (.inl (.int, 1000, .inl (fun _ => 0))) 1000) A (.inr (0, (PP.2.2.1 0).set 0 (.ref h.2.1)))) = g at k1 n1 x1 a1'
  have a2 : (sm_n g (.inl (.int, 1000, .inl (fun _ => 0))) 1000).1 A = _ := (n_ne (by omega)).trans a1'
  have k2 : Nx g (sm_w (sm_w (sm_w (sm_w (sm_n g (.inl (.int, 1000, .inl (fun _ => 0))) 1000) A (.inr (0, ((PP.2.2.1 0).set 0 (.ref h.2.1)).set 1 (.ref g.2.1)))) A (.inr (0, (((PP.2.2.1 0).set 0 (.ref h.2.1)).set 1 (.ref g.2.1)).set 2 (.int (nI 0))))) A (.inr (0, ((((PP.2.2.1 0).set 0 (.ref h.2.1)).set 1 (.ref g.2.1)).set 2 (.int (nI 0))).set 3 (.int (nI 0))))) A (.inr (0, (((((PP.2.2.1 0).set 0 (.ref h.2.1)).set 1 (.ref g.2.1)).set 2 (.int (nI 0))).set 3 (.int (nI 0))).set 4 (.int (nI 0))))) A 1 1000 := ((((Nx.nl (by omega)).s (Nx.w (by show A < g.2.1 + 1; omega))).s (Nx.w (by show A < g.2.1 + 1; omega))).s (Nx.w (by show A < g.2.1 + 1; omega))).s (Nx.w (by show A < g.2.1 + 1; omega))
  refine ⟨_, ?_, ⟨?_, by show 0 ≤ 1000; omega, (fun _ => 0), (fun _ => 0), ?_, ?_, fun i hi => absurd hi (Nat.not_lt_zero i)⟩, k1.s k2⟩
  · rw [c24, b24_0, if_neg (by decide)]
    show sm_fP (sm_n h (.inl (.int, 1000, .inl (fun _ => 0))) 1000) A 0 0 (.ref h.2.1) _ = _
    rw [pO a1 (by decide), hg, if_neg (by decide)]
    show sm_fP (sm_n g (.inl (.int, 1000, .inl (fun _ => 0))) 1000) A 0 1 (.ref g.2.1) _ = _
    rw [pO a2 (by rw [List.length_set]; decide), pO w_eq (by rw [List.length_set, List.length_set]; decide), pO w_eq (by rw [List.length_set, List.length_set, List.length_set]; decide), pO w_eq (by rw [List.length_set, List.length_set, List.length_set, List.length_set]; decide)]
  · rw [w_eq, n1, hn]
    rfl
  · rw [w_ne (by omega), w_ne (by omega), w_ne (by omega), w_ne (by omega), n_ne (by omega)]
    exact x1
  · rw [w_ne (by omega), w_ne (by omega), w_ne (by omega), w_ne (by omega), ← n1]
    exact n_eq
