/-! constructors: NumberWords, WornSums -/
theorem m23 {X : smX} {h : smH} {N : Nat} (hN : h.1 N = some (.inr (3, PP.2.2.1 3))) (hn : h.2.1 = N + 1) : ∃ h', sm_C PP X 23 [.ref N] h = some (none, h') ∧ NWAt h' N spN ∧ Nx h h' N 2 32000 := by
  have c31 : (nI 31000).toNatClampNeg = 31000 := nI_clamp (by omega)
  have c1 : (nI 1000).toNatClampNeg = 1000 := nI_clamp (by omega)
  obtain ⟨g1, e1, o1, x1, k1, s1⟩ := alF (k := 0) (n := 31000) (e := .inl (.char, 31000, .inl (fun _ => 0))) hN (by omega) (by decide)
  have n1 : g1.2.1 = N + 2 := by rw [k1.1]; show h.2.1 + 1 = _; omega
  obtain ⟨g2, e2, o2, x2, k2, s2⟩ := alF (k := 1) (n := 1000) (e := .inl (.int, 1000, .inl (fun _ => 0))) o1 (by omega) (by rw [List.length_set]; decide)
  rw [hn] at x1 s1
  rw [n1] at x2 s2
  have hO : g2.1 N = some (.inr (3, [.ref (N + 1), .ref (N + 2)])) := by
    rw [o2, hn, n1]
    rfl
  have r0 : NWAt g2 N (fun _ => []) := ⟨hO, (fun _ => 0), (fun _ => 0), (s2 _ (by omega) (by omega)).trans x1, x2, fun n hn => ⟨rfl, Nat.zero_le _, fun k => by show 0 < 256; omega, fun k hk => absurd hk (Nat.not_lt_zero k)⟩⟩
  obtain ⟨h3, e3, q3, k3⟩ := m23_loop (X := X) 1000 0 (by omega) g2 (fun _ => []) r0 (fun j hj => by omega) (fun j _ _ => rfl)
  have k12 := k1.s k2
  have n2 : g2.2.1 = N + 3 := by rw [k12.1]; show h.2.1 + 2 = _; omega
  refine ⟨h3, ?_, q3, ⟨by rw [k3.1]; exact k12.1, fun a ha => (k3.2 a (by omega)).trans (k12.2 a ha)⟩⟩
  rw [c23, b23_0]
  simp only [c31, c1]
  rw [if_neg (by decide), e1, if_neg (by decide), e2]
  exact e3
theorem TextAt.nx {h h' : smH} {A lo n k : Nat} {w} (x : TextAt h A w) (f : Nx h h' lo n k) (hd : A + 2 ≤ lo) : TextAt h' A w := by
  have q := x.fr f.fr (Or.inl hd)
  exact q
theorem HistAt.nx {h h' : smH} {A lo n k : Nat} {w} (x : HistAt h A w) (f : Nx h h' lo n k) (hd : A + 218 ≤ lo) : HistAt h' A w := by
  have q := x.fr f.fr (Or.inl hd)
  exact q
theorem NWAt.nx {h h' : smH} {A lo n k : Nat} {w} (x : NWAt h A w) (f : Nx h h' lo n k) (hd : A + 3 ≤ lo) : NWAt h' A w := by
  have q := x.fr f.fr (Or.inl hd)
  exact q
theorem FdAt.nx {h h' : smH} {A lo n k : Nat} {K L s} (x : FdAt h A K L s) (f : Nx h h' lo n k) (hd : A + 31 ≤ lo) : FdAt h' A K L s := by
  have q := x.fr f.fr (Or.inl hd)
  exact q
theorem ImAt.nx {h h' : smH} {A lo n k : Nat} {w} (x : ImAt h A w) (f : Nx h h' lo n k) (hd : A + 304 ≤ lo) : ImAt h' A w := by
  have q := x.fr f.fr (Or.inl hd)
  exact q
/-- a field of B is told; all else as it was -/
theorem fB {h : smH} {F c k : Nat} {fs : List Value} {v : Value} (hF : h.1 F = some (.inr (c, fs))) (hn : F < h.2.1) (hk : k < fs.length) : ∃ g : smH, (∀ κ, sm_fP h F c k v κ = κ g) ∧ g.1 F = some (.inr (c, fs.set k v)) ∧ Nx h g F 0 0 ∧ Fr h g F (F + 1) :=
  ⟨sm_w h F (.inr (c, fs.set k v)), fun κ => pO hF hk, w_eq, Nx.w hn, Fr.w⟩
def St0 : St := ([], ([], 0, none), [], fun _ => none)
theorem m26 {X : smX} {h : smH} {B : Nat} (hB : h.1 B = some (.inr (7, PP.2.2.1 7))) (hn : h.2.1 = B + 1) : ∃ h', sm_C PP X 26 [.ref B] h = some (none, h') ∧ RepC h' B St0 ∧ Nx h h' B 337 94797 := by
  have c2 : (nI 2).toNatClampNeg = 2 := nI_clamp (by omega)
  -- the text
  have k0 : Nx h (sm_n h (.inr (6, PP.2.2.1 6)) (PP.2.2.1 6).length) h.2.1 1 2 := Nx.n
  obtain ⟨a1, e1, t1, k1⟩ := m0 (X := X) (h := sm_n h (.inr (6, PP.2.2.1 6)) (PP.2.2.1 6).length) (t := h.2.1) n_eq rfl
  have K1 := k0.s k1
  have n1 : a1.2.1 = B + 3 := by rw [K1.1]; show h.2.1 + 2 = _; omega
  have b1 : a1.1 B = _ := (K1.2 B (by omega)).trans hB
  obtain ⟨g1, w1, o1, j1, f1⟩ := fB (k := 0) (v := .ref h.2.1) b1 (by omega) (by decide)
  have m1 : g1.2.1 = B + 3 := by rw [j1.1]; exact n1
  rw [hn] at t1 K1
  have T1 := t1.fr f1 (by omega)
  -- the sheet
  have k2 : Nx g1 (sm_n g1 (.inr (5, PP.2.2.1 5)) (PP.2.2.1 5).length) g1.2.1 1 5 := Nx.n
  obtain ⟨a2, e2, t2, k3⟩ := m3 (X := X) (h := sm_n g1 (.inr (5, PP.2.2.1 5)) (PP.2.2.1 5).length) (S := g1.2.1) n_eq rfl
  have K2 := k2.s k3
  have n2 : a2.2.1 = B + 30 := by rw [K2.1]; show g1.2.1 + 27 = _; omega
  have b2 : a2.1 B = _ := (K2.2 B (by omega)).trans o1
  obtain ⟨g2, w2, o2, j2, f2⟩ := fB (k := 1) (v := .ref g1.2.1) b2 (by omega) (by rw [List.length_set]; decide)
  have m2' : g2.2.1 = B + 30 := by rw [j2.1]; exact n2
  rw [m1] at t2 K2
  have T2 := (T1.nx K2 (by omega)).fr f2 (by omega)
  have S2 := t2.fr f2 (by omega)
  -- the history
  have k4 : Nx g2 (sm_n g2 (.inr (2, PP.2.2.1 2)) (PP.2.2.1 2).length) g2.2.1 1 3 := Nx.n
  obtain ⟨a3, e3, t3, k5⟩ := m5 (X := X) (h := sm_n g2 (.inr (2, PP.2.2.1 2)) (PP.2.2.1 2).length) (H := g2.2.1) n_eq rfl
  have K3 := k4.s k5
  have n3 : a3.2.1 = B + 248 := by rw [K3.1]; show g2.2.1 + 218 = _; omega
  have b3 : a3.1 B = _ := (K3.2 B (by omega)).trans o2
  obtain ⟨g3, w3, o3, j3, f3⟩ := fB (k := 2) (v := .ref g2.2.1) b3 (by omega) (by rw [List.length_set, List.length_set]; decide)
  have m3' : g3.2.1 = B + 248 := by rw [j3.1]; exact n3
  rw [m2'] at t3 K3
  have T3 := (T2.nx K3 (by omega)).fr f3 (by omega)
  have S3 := (S2.nx K3 (by omega)).fr f3 (by omega)
  have H3 := t3.fr f3 (by omega)
  -- images
  obtain ⟨a4, fi, e4, x4, y4, K4⟩ := m4 (X := X) (h := g3) (c := 2) (by omega)
  have n4 : a4.2.1 = B + 303 := by rw [K4.1]; show g3.2.1 + 55 = _; omega
  have b4 : a4.1 B = _ := (K4.2 B (by omega)).trans o3
  obtain ⟨g4, w4, o4, j4, f4⟩ := fB (k := 3) (v := .ref g3.2.1) b4 (by omega) (by rw [List.length_set, List.length_set, List.length_set]; decide)
  have m4' : g4.2.1 = B + 303 := by rw [j4.1]; exact n4
  rw [m3'] at x4 y4 K4
  have T4 := (T3.nx K4 (by omega)).fr f4 (by omega)
  have S4 := (S3.nx K4 (by omega)).fr f4 (by omega)
  have H4 := (H3.nx K4 (by omega)).fr f4 (by omega)
  have X4 := (f4.2 (B + 248) (by omega)).trans x4
  -- which images are kept
  obtain ⟨g5, e5, o5, x5, K5, s5⟩ := alF (k := 4) (n := 2) (e := .inl (.boolean, 2, .inl (fun _ => 0))) o4 (by omega) (by rw [List.length_set, List.length_set, List.length_set, List.length_set]; decide)
  have m5' : g5.2.1 = B + 304 := by rw [K5.1]; show g4.2.1 + 1 = _; omega
  rw [m4'] at x5 s5
  have F5 : Fr g4 ((fun a => if a = B + 303 then g4.1 a else g5.1 a), g4.2) B (B + 1) := ⟨rfl, fun a ha => by
    show (if a = B + 303 then g4.1 a else g5.1 a) = _
    by_cases q : a = B + 303
    · rw [if_pos q]
    · rw [if_neg q]; exact s5 a (by omega) q⟩
  have T5 : TextAt g5 (B + 1) [] := T4.kept (s5 _ (by omega) (by omega)) (s5 _ (by omega) (by omega))
  have hs5 : ∀ {S lo : Nat}, SheetAt g4 S ([], 0, none) → B < S → S + 27 ≤ B + 303 → SheetAt g5 S ([], 0, none) := fun {S lo} r q1 q2 => by
    obtain ⟨⟨p1, ⟨ty, u, p2, p3, p4⟩, ty2, u2, p5, p6, p7⟩, p8, W, p9, p10⟩ := r
    exact ⟨⟨(s5 _ (by omega) (by omega)).trans p1, ⟨ty, u, p2, (s5 _ (by omega) (by omega)).trans p3, p4⟩, ty2, u2, p5, (s5 _ (by omega) (by omega)).trans p6, p7⟩, p8, W, fun i hi => ⟨(p9 i hi).1.kept (s5 _ (by omega) (by omega)) (s5 _ (by omega) (by omega)), (p9 i hi).2.kept (s5 _ (by omega) (by omega)) (s5 _ (by omega) (by omega))⟩, p10⟩
  have S5 := hs5 (lo := 0) S4 (by omega) (by omega)
  have H5 : HistAt g5 (B + 30) [] := by
    obtain ⟨nx, V, p1, ⟨ty, u, p2, p3, p4⟩, p5, p6, p7, p8⟩ := H4.nx (Nx.rf (lo := B + 248)) (by omega)
    have q := (H4.fr F5 (by omega))
    obtain ⟨nx, V, p1, ⟨ty, u, p2, p3, p4⟩, p5, p6, p7, p8⟩ := q
    have z : ∀ a, a ≠ B + 303 → (fun a => if a = B + 303 then g4.1 a else g5.1 a) a = g5.1 a := fun a ha => if_neg ha
    refine ⟨nx, V, (z _ (by omega)).symm.trans p1, ⟨ty, u, p2, (z _ (by omega)).symm.trans p3, p4⟩, p5, p6, fun j hj => ?_, p8⟩
    obtain ⟨⟨p1, ⟨ty, u, p2, p3, p4⟩, ty2, u2, p5, p6, p7⟩, p8, W, p9, p10⟩ := p7 j hj
    exact ⟨⟨(z _ (by omega)).symm.trans p1, ⟨ty, u, p2, (z _ (by omega)).symm.trans p3, p4⟩, ty2, u2, p5, (z _ (by omega)).symm.trans p6, p7⟩, p8, W, fun i hi => ⟨(p9 i hi).1.kept (z _ (by omega)).symm (z _ (by omega)).symm, (p9 i hi).2.kept (z _ (by omega)).symm (z _ (by omega)).symm⟩, p10⟩
  have I5 : ImAt g5 B (fun _ => none) := ⟨⟨_, fi, isRef5, (s5 _ (by omega) (by omega)).trans X4, fun i hi => by rw [(y4 i hi).1, show B + 248 + 1 + 27 * i = B + 249 + 27 * i by omega]⟩, ⟨(fun _ => 0), x5, fun i hi => rfl⟩, fun i hi => ⟨([], 0, none), hs5 (lo := 0) (by
    have := (y4 i hi).2
    rw [show B + 248 + 1 + 27 * i = B + 249 + 27 * i by omega] at this
    exact this.fr f4 (by omega)) (by omega) (by omega), fun s2 h => by cases h⟩⟩
  -- numbers in words
  have k6 : Nx g5 (sm_n g5 (.inr (3, PP.2.2.1 3)) (PP.2.2.1 3).length) g5.2.1 1 2 := Nx.n
  obtain ⟨a6, e6, t6, k7⟩ := m23 (X := X) (h := sm_n g5 (.inr (3, PP.2.2.1 3)) (PP.2.2.1 3).length) (N := g5.2.1) n_eq rfl
  have K6 := k6.s k7
  have n6 : a6.2.1 = B + 307 := by rw [K6.1]; show g5.2.1 + 3 = _; omega
  have b6 : a6.1 B = _ := (K6.2 B (by omega)).trans o5
  obtain ⟨g6, w6, o6, j6, f6⟩ := fB (k := 5) (v := .ref g5.2.1) b6 (by omega) (by rw [List.length_set, List.length_set, List.length_set, List.length_set, List.length_set]; decide)
  have m6' : g6.2.1 = B + 307 := by rw [j6.1]; exact n6
  rw [m5'] at t6 K6
  have T6 := (T5.nx K6 (by omega)).fr f6 (by omega)
  have S6 := (S5.nx K6 (by omega)).fr f6 (by omega)
  have H6 := (H5.nx K6 (by omega)).fr f6 (by omega)
  have I6 := (I5.nx K6 (by omega)).fr f6 (by omega)
  have N6 := t6.fr f6 (by omega)
  -- findings
  have k8 : Nx g6 (sm_n g6 (.inr (1, PP.2.2.1 1)) (PP.2.2.1 1).length) g6.2.1 1 8 := Nx.n
  obtain ⟨a7, e7, t7, k9⟩ := m25 (X := X) (h := sm_n g6 (.inr (1, PP.2.2.1 1)) (PP.2.2.1 1).length) (F := g6.2.1) n_eq rfl
  have K7 := k8.s k9
  have n7 : a7.2.1 = B + 338 := by rw [K7.1]; show g6.2.1 + 31 = _; omega
  have b7 : a7.1 B = _ := (K7.2 B (by omega)).trans o6
  obtain ⟨g7, w7, o7, j7, f7⟩ := fB (k := 6) (v := .ref g6.2.1) b7 (by omega) (by rw [List.length_set, List.length_set, List.length_set, List.length_set, List.length_set, List.length_set]; decide)
  rw [m6'] at t7 K7
  have hO : g7.1 B = some (.inr (7, [.ref (B + 1), .ref (B + 3), .ref (B + 30), .ref (B + 248), .ref (B + 303), .ref (B + 304), .ref (B + 307)])) := by
    rw [o7, hn, m1, m2', m3', m4', m5', m6']
    rfl
  refine ⟨g7, ?_, ⟨⟨hO, (T6.nx K7 (by omega)).fr f7 (by omega), (S6.nx K7 (by omega)).fr f7 (by omega), (H6.nx K7 (by omega)).fr f7 (by omega), (I6.nx K7 (by omega)).fr f7 (by omega), (N6.nx K7 (by omega)).fr f7 (by omega)⟩, false, false, (t7 _).fr f7 (by omega)⟩, ?_⟩
  · rw [c26, b26_0, e1]
    simp only [sm_gI_s, sm_gR_s, sm_gJ_s, sm_cR_s, sm_al_s, sm_sw_s, sm_tl1, sm_tl0, sm_ap0, sm_ap1, List.getElem?_cons_zero, List.getElem?_cons_succ, nk10, nk11, if_true, eq_self, b26_12]
    rw [w1, e2]
    simp only [sm_gI_s, sm_gR_s, sm_gJ_s, sm_cR_s, sm_al_s, sm_sw_s, sm_tl1, sm_tl0, sm_ap0, sm_ap1, List.getElem?_cons_zero, List.getElem?_cons_succ, nk10, nk11, if_true, eq_self, b26_23]
    rw [w2, e3]
    simp only [sm_gI_s, sm_gR_s, sm_gJ_s, sm_cR_s, sm_al_s, sm_sw_s, sm_tl1, sm_tl0, sm_ap0, sm_ap1, List.getElem?_cons_zero, List.getElem?_cons_succ, nk10, nk11, if_true, eq_self, b26_34]
    rw [w3, e4]
    simp only [sm_gI_s, sm_gR_s, sm_gJ_s, sm_cR_s, sm_al_s, sm_sw_s, sm_tl1, sm_tl0, sm_ap0, sm_ap1, List.getElem?_cons_zero, List.getElem?_cons_succ, nk10, nk11, if_true, eq_self, b26_42, c2]
    rw [w4, if_neg (by decide), e5, e6]
    simp only [sm_gI_s, sm_gR_s, sm_gJ_s, sm_cR_s, sm_al_s, sm_sw_s, sm_tl1, sm_tl0, sm_ap0, sm_ap1, List.getElem?_cons_zero, List.getElem?_cons_succ, nk10, nk11, if_true, eq_self, b26_60]
    rw [w6, e7]
    simp only [sm_gI_s, sm_gR_s, sm_gJ_s, sm_cR_s, sm_al_s, sm_sw_s, sm_tl1, sm_tl0, sm_ap0, sm_ap1, List.getElem?_cons_zero, List.getElem?_cons_succ, nk10, nk11, if_true, eq_self, b26_71]
    rw [w7]
  · exact (((((((((((((K1.to (lo2 := B) (by omega) rfl rfl).s j1).s (K2.to (lo2 := B) (by omega) rfl rfl)).s j2).s (K3.to (lo2 := B) (by omega) rfl rfl)).s j3).s (K4.to (lo2 := B) (by omega) rfl rfl)).s j4).s K5).s (K6.to (lo2 := B) (by omega) rfl rfl)).s j6).s (K7.to (lo2 := B) (by omega) rfl rfl)).s j7).to (Nat.le_refl _) (by omega) (by omega)
theorem RepC.nx {h h' : smH} {B lo n k : Nat} {st} (x : RepC h B st) (f : Nx h h' lo n k) (hd : B + 338 ≤ lo) : RepC h' B st := by
  obtain ⟨⟨a, b, c, d, e, g⟩, K, L, i⟩ := x
  exact ⟨⟨(f.2 _ (by omega)).trans a, b.nx f (by omega), c.nx f (by omega), d.nx f (by omega), e.nx f (by omega), g.nx f (by omega)⟩, K, L, i.nx f (by omega)⟩
