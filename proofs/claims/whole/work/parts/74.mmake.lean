/-! the constructor of the reference -/
theorem m106 {X : smX} {h : smH} {t : Nat} (ht : h.1 t = some (.inr (8, PP.2.2.1 8))) (hn : h.2.1 = t + 1) : ∃ h', sm_C PP X 106 [.ref t] h = some (none, h') ∧ RepM h' t St0 ∧ Nx h h' t 15 62489 := by
  have n0 : h.2.1 = t + 1 := hn
  obtain ⟨g1, w1, o1, x1, K1, s1⟩ := alF (k := 0) (n := 219) (e := .inl (.int, 219, .inl (fun _ => 0))) ht (by omega) (by decide)
  have n1 : g1.2.1 = t + 2 := by rw [K1.1]; show h.2.1 + 1 = _; omega
  rw [n0] at o1 x1 s1
  obtain ⟨g2, w2, o2, x2, K2, s2⟩ := alF (k := 1) (n := 1752) (e := .inl (.int, 1752, .inl (fun _ => 0))) o1 (by omega) (by simp only [List.length_set]; decide)
  have n2 : g2.2.1 = t + 3 := by rw [K2.1]; show g1.2.1 + 1 = _; omega
  rw [n1] at o2 x2 s2
  obtain ⟨g3, w3, o3, x3, K3, s3⟩ := alF (k := 3) (n := 438) (e := .inl (.int, 438, .inl (fun _ => 0))) o2 (by omega) (by simp only [List.length_set]; decide)
  have n3 : g3.2.1 = t + 4 := by rw [K3.1]; show g2.2.1 + 1 = _; omega
  rw [n2] at o3 x3 s3
  obtain ⟨g4, w4, o4, x4, K4, s4⟩ := alF (k := 4) (n := 2) (e := .inl (.boolean, 2, .inl (fun _ => 0))) o3 (by omega) (by simp only [List.length_set]; decide)
  have n4 : g4.2.1 = t + 5 := by rw [K4.1]; show g3.2.1 + 1 = _; omega
  rw [n3] at o4 x4 s4
  obtain ⟨g5, w5, o5, x5, K5, s5⟩ := alF (k := 5) (n := 40) (e := .inl (.int, 40, .inl (fun _ => 0))) o4 (by omega) (by simp only [List.length_set]; decide)
  have n5 : g5.2.1 = t + 6 := by rw [K5.1]; show g4.2.1 + 1 = _; omega
  rw [n4] at o5 x5 s5
  obtain ⟨g6, w6, o6, x6, K6, s6⟩ := alF (k := 7) (n := 40) (e := .inl (.int, 40, .inl (fun _ => 0))) o5 (by omega) (by simp only [List.length_set]; decide)
  have n6 : g6.2.1 = t + 7 := by rw [K6.1]; show g5.2.1 + 1 = _; omega
  rw [n5] at o6 x6 s6
  obtain ⟨g7, w7, o7, x7, K7, s7⟩ := alF (k := 9) (n := 6000) (e := .inl (.int, 6000, .inl (fun _ => 0))) o6 (by omega) (by simp only [List.length_set]; decide)
  have n7 : g7.2.1 = t + 8 := by rw [K7.1]; show g6.2.1 + 1 = _; omega
  rw [n6] at o7 x7 s7
  obtain ⟨g8, w8, o8, x8, K8, s8⟩ := alF (k := 10) (n := 6000) (e := .inl (.int, 6000, .inl (fun _ => 0))) o7 (by omega) (by simp only [List.length_set]; decide)
  have n8 : g8.2.1 = t + 9 := by rw [K8.1]; show g7.2.1 + 1 = _; omega
  rw [n7] at o8 x8 s8
  obtain ⟨g9, w9, o9, x9, K9, s9⟩ := alF (k := 11) (n := 6) (e := .inl (.int, 6, .inl (fun _ => 0))) o8 (by omega) (by simp only [List.length_set]; decide)
  have n9 : g9.2.1 = t + 10 := by rw [K9.1]; show g8.2.1 + 1 = _; omega
  rw [n8] at o9 x9 s9
  obtain ⟨g10, w10, o10, x10, K10, s10⟩ := alF (k := 12) (n := 17985) (e := .inl (.int, 17985, .inl (fun _ => 0))) o9 (by omega) (by simp only [List.length_set]; decide)
  have n10 : g10.2.1 = t + 11 := by rw [K10.1]; show g9.2.1 + 1 = _; omega
  rw [n9] at o10 x10 s10
  obtain ⟨g11, w11, o11, x11, K11, s11⟩ := alF (k := 13) (n := 17985) (e := .inl (.int, 17985, .inl (fun _ => 0))) o10 (by omega) (by simp only [List.length_set]; decide)
  have n11 : g11.2.1 = t + 12 := by rw [K11.1]; show g10.2.1 + 1 = _; omega
  rw [n10] at o11 x11 s11
  obtain ⟨g12, w12, o12, x12, K12, s12⟩ := alF (k := 14) (n := 6) (e := .inl (.int, 6, .inl (fun _ => 0))) o11 (by omega) (by simp only [List.length_set]; decide)
  have n12 : g12.2.1 = t + 13 := by rw [K12.1]; show g11.2.1 + 1 = _; omega
  rw [n11] at o12 x12 s12
  obtain ⟨g13, w13, o13, x13, K13, s13⟩ := alF (k := 15) (n := 5995) (e := .inl (.boolean, 5995, .inl (fun _ => 0))) o12 (by omega) (by simp only [List.length_set]; decide)
  have n13 : g13.2.1 = t + 14 := by rw [K13.1]; show g12.2.1 + 1 = _; omega
  rw [n12] at o13 x13 s13
  obtain ⟨g14, w14, o14, x14, K14, s14⟩ := alF (k := 16) (n := 5995) (e := .inl (.boolean, 5995, .inl (fun _ => 0))) o13 (by omega) (by simp only [List.length_set]; decide)
  have n14 : g14.2.1 = t + 15 := by rw [K14.1]; show g13.2.1 + 1 = _; omega
  rw [n13] at o14 x14 s14
  obtain ⟨g15, w15, o15, x15, K15, s15⟩ := alF (k := 17) (n := 26) (e := .inl (.int, 26, .inl (fun _ => 0))) o14 (by omega) (by simp only [List.length_set]; decide)
  have n15 : g15.2.1 = t + 16 := by rw [K15.1]; show g14.2.1 + 1 = _; omega
  rw [n14] at o15 x15 s15
  have hO : MObj g15 t 0 0 0 := by
    refine o15.trans ?_
    rfl
  have y1 : IA g15 (t + 1) 219 (fun _ => 0) := (s15 _ (by omega) (by omega)).trans ((s14 _ (by omega) (by omega)).trans ((s13 _ (by omega) (by omega)).trans ((s12 _ (by omega) (by omega)).trans ((s11 _ (by omega) (by omega)).trans ((s10 _ (by omega) (by omega)).trans ((s9 _ (by omega) (by omega)).trans ((s8 _ (by omega) (by omega)).trans ((s7 _ (by omega) (by omega)).trans ((s6 _ (by omega) (by omega)).trans ((s5 _ (by omega) (by omega)).trans ((s4 _ (by omega) (by omega)).trans ((s3 _ (by omega) (by omega)).trans ((s2 _ (by omega) (by omega)).trans (x1))))))))))))))
  have y2 : IA g15 (t + 2) 1752 (fun _ => 0) := (s15 _ (by omega) (by omega)).trans ((s14 _ (by omega) (by omega)).trans ((s13 _ (by omega) (by omega)).trans ((s12 _ (by omega) (by omega)).trans ((s11 _ (by omega) (by omega)).trans ((s10 _ (by omega) (by omega)).trans ((s9 _ (by omega) (by omega)).trans ((s8 _ (by omega) (by omega)).trans ((s7 _ (by omega) (by omega)).trans ((s6 _ (by omega) (by omega)).trans ((s5 _ (by omega) (by omega)).trans ((s4 _ (by omega) (by omega)).trans ((s3 _ (by omega) (by omega)).trans (x2)))))))))))))
  have y3 : IA g15 (t + 3) 438 (fun _ => 0) := (s15 _ (by omega) (by omega)).trans ((s14 _ (by omega) (by omega)).trans ((s13 _ (by omega) (by omega)).trans ((s12 _ (by omega) (by omega)).trans ((s11 _ (by omega) (by omega)).trans ((s10 _ (by omega) (by omega)).trans ((s9 _ (by omega) (by omega)).trans ((s8 _ (by omega) (by omega)).trans ((s7 _ (by omega) (by omega)).trans ((s6 _ (by omega) (by omega)).trans ((s5 _ (by omega) (by omega)).trans ((s4 _ (by omega) (by omega)).trans (x3))))))))))))
  have y4 : BA g15 (t + 4) 2 (fun _ => 0) := (s15 _ (by omega) (by omega)).trans ((s14 _ (by omega) (by omega)).trans ((s13 _ (by omega) (by omega)).trans ((s12 _ (by omega) (by omega)).trans ((s11 _ (by omega) (by omega)).trans ((s10 _ (by omega) (by omega)).trans ((s9 _ (by omega) (by omega)).trans ((s8 _ (by omega) (by omega)).trans ((s7 _ (by omega) (by omega)).trans ((s6 _ (by omega) (by omega)).trans ((s5 _ (by omega) (by omega)).trans (x4)))))))))))
  have y5 : IA g15 (t + 5) 40 (fun _ => 0) := (s15 _ (by omega) (by omega)).trans ((s14 _ (by omega) (by omega)).trans ((s13 _ (by omega) (by omega)).trans ((s12 _ (by omega) (by omega)).trans ((s11 _ (by omega) (by omega)).trans ((s10 _ (by omega) (by omega)).trans ((s9 _ (by omega) (by omega)).trans ((s8 _ (by omega) (by omega)).trans ((s7 _ (by omega) (by omega)).trans ((s6 _ (by omega) (by omega)).trans (x5))))))))))
  have y6 : IA g15 (t + 6) 40 (fun _ => 0) := (s15 _ (by omega) (by omega)).trans ((s14 _ (by omega) (by omega)).trans ((s13 _ (by omega) (by omega)).trans ((s12 _ (by omega) (by omega)).trans ((s11 _ (by omega) (by omega)).trans ((s10 _ (by omega) (by omega)).trans ((s9 _ (by omega) (by omega)).trans ((s8 _ (by omega) (by omega)).trans ((s7 _ (by omega) (by omega)).trans (x6)))))))))
  have y7 : IA g15 (t + 7) 6000 (fun _ => 0) := (s15 _ (by omega) (by omega)).trans ((s14 _ (by omega) (by omega)).trans ((s13 _ (by omega) (by omega)).trans ((s12 _ (by omega) (by omega)).trans ((s11 _ (by omega) (by omega)).trans ((s10 _ (by omega) (by omega)).trans ((s9 _ (by omega) (by omega)).trans ((s8 _ (by omega) (by omega)).trans (x7))))))))
  have y8 : IA g15 (t + 8) 6000 (fun _ => 0) := (s15 _ (by omega) (by omega)).trans ((s14 _ (by omega) (by omega)).trans ((s13 _ (by omega) (by omega)).trans ((s12 _ (by omega) (by omega)).trans ((s11 _ (by omega) (by omega)).trans ((s10 _ (by omega) (by omega)).trans ((s9 _ (by omega) (by omega)).trans (x8)))))))
  have y9 : IA g15 (t + 9) 6 (fun _ => 0) := (s15 _ (by omega) (by omega)).trans ((s14 _ (by omega) (by omega)).trans ((s13 _ (by omega) (by omega)).trans ((s12 _ (by omega) (by omega)).trans ((s11 _ (by omega) (by omega)).trans ((s10 _ (by omega) (by omega)).trans (x9))))))
  have y10 : IA g15 (t + 10) 17985 (fun _ => 0) := (s15 _ (by omega) (by omega)).trans ((s14 _ (by omega) (by omega)).trans ((s13 _ (by omega) (by omega)).trans ((s12 _ (by omega) (by omega)).trans ((s11 _ (by omega) (by omega)).trans (x10)))))
  have y11 : IA g15 (t + 11) 17985 (fun _ => 0) := (s15 _ (by omega) (by omega)).trans ((s14 _ (by omega) (by omega)).trans ((s13 _ (by omega) (by omega)).trans ((s12 _ (by omega) (by omega)).trans (x11))))
  have y12 : IA g15 (t + 12) 6 (fun _ => 0) := (s15 _ (by omega) (by omega)).trans ((s14 _ (by omega) (by omega)).trans ((s13 _ (by omega) (by omega)).trans (x12)))
  have y13 : BA g15 (t + 13) 5995 (fun _ => 0) := (s15 _ (by omega) (by omega)).trans ((s14 _ (by omega) (by omega)).trans (x13))
  have y14 : BA g15 (t + 14) 5995 (fun _ => 0) := (s15 _ (by omega) (by omega)).trans (x14)
  have y15 : IA g15 (t + 15) 26 (fun _ => 0) := x15
  have k1 : Fr g15 (sm_w g15 (t + 1) (.inl (.int, 219, .inl (upd (fun _ => 0) 2 (-nI 9))))) (t + 1) (t + 2) := Fr.w
  have K : Nx h g15 t 15 62489 := ((((((((((((((K1.s K2).s K3).s K4).s K5).s K6).s K7).s K8).s K9).s K10).s K11).s K12).s K13).s K14).s K15).to (Nat.le_refl _) rfl rfl
  refine ⟨sm_w g15 (t + 1) (.inl (.int, 219, .inl (upd (fun _ => 0) 2 (-nI 9)))), ?_, ⟨⟨0, hO.fr k1 (by omega)⟩, ⟨_, y5.fr k1 (by omega), Nat.zero_le _, fun k => by show 0 < 256; omega, fun k hk => absurd hk (Nat.not_lt_zero k)⟩, ⟨_, w_eq, rfl, rfl, rfl, ⟨Nat.zero_le _, Nat.zero_le _, fun t h => by cases h⟩, fun e he => absurd he (Nat.not_lt_zero e)⟩, ⟨_, y2.fr k1 (by omega), Nat.zero_le _, fun i hi => absurd hi (Nat.not_lt_zero i)⟩, ⟨⟨_, y3.fr k1 (by omega), fun i hi s h => by cases h⟩, _, BA.fr y4 k1 (by omega), fun i hi => rfl⟩, ⟨_, y6.fr k1 (by omega)⟩, ⟨_, y7.fr k1 (by omega)⟩, ⟨_, y8.fr k1 (by omega)⟩, ⟨_, y9.fr k1 (by omega)⟩, ⟨_, y10.fr k1 (by omega)⟩, ⟨_, y11.fr k1 (by omega)⟩, ⟨_, y12.fr k1 (by omega)⟩, ⟨_, BA.fr y13 k1 (by omega)⟩, ⟨_, BA.fr y14 k1 (by omega)⟩, _, y15.fr k1 (by omega)⟩, (K.s (Nx.wl (by omega) (by omega))).to (Nat.le_refl _) rfl rfl⟩
  rw [c106, b106_0]
  simp only [show (nI 2).toNatClampNeg = 2 from nI_clamp (by omega), show (nI 6).toNatClampNeg = 6 from nI_clamp (by omega), show (nI 26).toNatClampNeg = 26 from nI_clamp (by omega), show (nI 40).toNatClampNeg = 40 from nI_clamp (by omega), show (nI 219).toNatClampNeg = 219 from nI_clamp (by omega), show (nI 438).toNatClampNeg = 438 from nI_clamp (by omega), show (nI 1752).toNatClampNeg = 1752 from nI_clamp (by omega), show (nI 5995).toNatClampNeg = 5995 from nI_clamp (by omega), show (nI 6000).toNatClampNeg = 6000 from nI_clamp (by omega), show (nI 17985).toNatClampNeg = 17985 from nI_clamp (by omega), if_neg (show ¬ ((nI 2 : Int32) < 0 ∨ 1000000 < 2) by decide), if_neg (show ¬ ((nI 6 : Int32) < 0 ∨ 1000000 < 6) by decide), if_neg (show ¬ ((nI 26 : Int32) < 0 ∨ 1000000 < 26) by decide), if_neg (show ¬ ((nI 40 : Int32) < 0 ∨ 1000000 < 40) by decide), if_neg (show ¬ ((nI 219 : Int32) < 0 ∨ 1000000 < 219) by decide), if_neg (show ¬ ((nI 438 : Int32) < 0 ∨ 1000000 < 438) by decide), if_neg (show ¬ ((nI 1752 : Int32) < 0 ∨ 1000000 < 1752) by decide), if_neg (show ¬ ((nI 5995 : Int32) < 0 ∨ 1000000 < 5995) by decide), if_neg (show ¬ ((nI 6000 : Int32) < 0 ∨ 1000000 < 6000) by decide), if_neg (show ¬ ((nI 17985 : Int32) < 0 ∨ 1000000 < 17985) by decide)]
  rw [w1, w2, w3, w4, w5, w6, w7, w8, w9, w10, w11, w12, w13, w14, w15]
  simp only [fO hO, sm_gI_s, sm_gR_s, sm_gJ_s, sm_cR_s, sm_al_s, sm_sw_s, sm_tl1, sm_tl0, sm_ap0, sm_ap1, List.getElem?_cons_zero, List.getElem?_cons_succ, nk10, nk11, if_true, eq_self]
  rw [stO y1 (by omega) (by omega)]
