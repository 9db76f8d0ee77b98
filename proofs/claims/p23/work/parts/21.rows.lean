/-! rows of signs: class Row -/
def nA (ws : List Nat) (k : Nat) : Nat := ws.getD k 0
theorem nA_set {ws : List Nat} {k c j : Nat} (hk : k < ws.length) : nA (ws.set k c) j = if j = k then c else nA ws j := by
  unfold nA
  rw [List.getD_eq_getElem?_getD, List.getD_eq_getElem?_getD, List.getElem?_set]
  by_cases h : k = j
  · subst h
    simp [hk]
  · rw [if_neg h, if_neg (fun q => h q.symm)]
theorem nA_ext {a b : List Nat} (h : a.length = b.length) (hk : ∀ k, k < a.length → nA a k = nA b k) : a = b := by
  apply List.ext_getElem h
  intro i h1 h2
  have := hk i h1
  unfold nA at this
  rw [List.getD_eq_getElem?_getD, List.getD_eq_getElem?_getD, List.getElem?_eq_getElem h1, List.getElem?_eq_getElem h2] at this
  exact this
theorem nA_out {ws : List Nat} {k : Nat} (h : ws.length ≤ k) : nA ws k = 0 := by
  unfold nA
  rw [List.getD_eq_getElem?_getD, List.getElem?_eq_none h]
  rfl
/-- all but the cells from lo to hi are as they were; nothing was made -/
def Fr (h h' : smH) (lo hi : Nat) : Prop := h'.2 = h.2 ∧ ∀ a, a < lo ∨ hi ≤ a → h'.1 a = h.1 a
theorem Fr.rf {h : smH} {lo hi : Nat} : Fr h h lo hi := ⟨rfl, fun _ _ => rfl⟩
theorem Fr.tr {h h1 h2 : smH} {lo hi lo1 hi1 lo2 hi2 : Nat} (f1 : Fr h h1 lo1 hi1) (f2 : Fr h1 h2 lo2 hi2) (a1 : lo ≤ lo1) (b1 : hi1 ≤ hi) (a2 : lo ≤ lo2) (b2 : hi2 ≤ hi) : Fr h h2 lo hi :=
  ⟨f2.1.trans f1.1, fun a ha => (f2.2 a (by omega)).trans (f1.2 a (by omega))⟩
theorem Fr.mono {h h1 : smH} {lo hi lo1 hi1 : Nat} (f1 : Fr h h1 lo1 hi1) (a1 : lo ≤ lo1) (b1 : hi1 ≤ hi) : Fr h h1 lo hi := ⟨f1.1, fun a ha => f1.2 a (by omega)⟩
theorem Fr.w {h : smH} {a : Nat} {e : smC} : Fr h (sm_w h a e) a (a + 1) := ⟨rfl, fun b hb => w_ne (by omega)⟩
def ChAt (h : smH) (a cap : Nat) (ws : List Nat) : Prop := ∃ f, h.1 a = some (.inl (.char, cap, .inl f)) ∧ (∀ k, k < cap → ∃ c, c < 256 ∧ f k = nI c) ∧ ∀ k, k < ws.length → f k = nI (nA ws k)
def RowAt (h : smH) (r cap : Nat) (ws : List Nat) : Prop := h.1 r = some (.inr (4, [.ref (r + 1), .int (nI ws.length)])) ∧ (ws.length ≤ cap ∧ cap ≤ 31 ∧ ∀ k, nA ws k < 256) ∧ ChAt h (r + 1) cap ws
theorem RowAt.kept {h h' : smH} {r cap : Nat} {ws : List Nat} (hr : RowAt h r cap ws) (h1 : h'.1 r = h.1 r) (h2 : h'.1 (r + 1) = h.1 (r + 1)) : RowAt h' r cap ws := by
  obtain ⟨a, b, f, c⟩ := hr
  exact ⟨by rw [h1]; exact a, b, f, by rw [h2]; exact c⟩
theorem RowAt.fr {h h' : smH} {r cap lo hi : Nat} {ws : List Nat} (hr : RowAt h r cap ws) (f : Fr h h' lo hi) (hd : r + 2 ≤ lo ∨ hi ≤ r) : RowAt h' r cap ws := hr.kept (f.2 _ (by omega)) (f.2 _ (by omega))
theorem m36 {X : smX} {h : smH} {r cap : Nat} {ws : List Nat} (hr : RowAt h r cap ws) (p : Int32) : sm_C PP X 36 [.ref r, .int p] h = some (some (.int (if 0 ≤ p.toInt ∧ p.toInt < ws.length then nI 1 else nI 0)), h) := by
  obtain ⟨h1, ⟨h2, h3, h4⟩, f, h5, h6⟩ := hr
  simp only [c36, b36_0, b36_25, b36_26, sm_gI_s, sm_gR_s, sm_gJ_s, sm_cR_s, sm_al_s, sm_sw_s, sm_tl1, sm_tl0, sm_ap0, sm_ap1, List.getElem?_cons_zero, List.getElem?_cons_succ, nk10, nk11, if_true, eq_self, fO h1, aO h5, i_lt, i_le, i_0, nI_toInt (show ws.length < 2 ^ 31 by omega), nI_toInt (show cap < 2 ^ 31 by omega)]
  split
  · rw [if_neg (by omega)]
  · split
    · rw [if_neg (by omega)]
    · rw [if_neg (by omega), if_pos (by omega)]
theorem m37 {X : smX} {h : smH} {r cap : Nat} {ws : List Nat} (hr : RowAt h r cap ws) (p : Int32) : sm_C PP X 37 [.ref r, .int p] h = some (some (.int (if 0 ≤ p.toInt ∧ p.toInt < ws.length then nI (nA ws p.toInt.toNat) else nI 0)), h) := by
  obtain ⟨h1, ⟨h2, h3, h4⟩, f, h5, -, h6⟩ := id hr
  simp only [c37, b37_0, b37_5, b37_18, sm_gI_s, sm_gR_s, sm_gJ_s, sm_cR_s, sm_al_s, sm_sw_s, sm_tl1, sm_tl0, sm_ap0, sm_ap1, List.getElem?_cons_zero, List.getElem?_cons_succ, nk10, nk11, if_true, eq_self, vO h1, m36 hr, fO h1, aO h5]
  by_cases hc : 0 ≤ p.toInt ∧ p.toInt < ws.length
  · rw [if_pos hc, if_neg (by decide), if_pos hc]
    obtain ⟨k, hk, rfl⟩ : ∃ k : Nat, k < 2 ^ 31 ∧ p = nI k := by
      rcases i_cases p with h | h
      · omega
      · exact h
    rw [nI_toInt hk] at hc ⊢
    rw [ldO (by omega) (by omega), h6 k (by omega), if_pos (nk2 (by have := h4 k; omega))]
    rfl
  · rw [if_neg hc, if_pos (by decide), if_neg hc, if_pos (nk2 (by omega))]
/-- at a place that there is -/
theorem m37k {X : smX} {h : smH} {r cap : Nat} {ws : List Nat} (hr : RowAt h r cap ws) {k : Nat} (hk : k < ws.length) : sm_C PP X 37 [.ref r, .int (nI k)] h = some (some (.int (nI (nA ws k))), h) := by
  have h2 := hr.2.1
  rw [m37 hr, nI_toInt (by omega), if_pos (by omega)]
  rfl
theorem m36k {X : smX} {h : smH} {r cap : Nat} {ws : List Nat} (hr : RowAt h r cap ws) {k : Nat} (hk : k < ws.length) : sm_C PP X 36 [.ref r, .int (nI k)] h = some (some (.int (nI 1)), h) := by
  have h2 := hr.2.1
  rw [m36 hr, nI_toInt (by omega), if_pos (by omega)]
theorem m38 {X : smX} {h : smH} {r cap : Nat} {ws : List Nat} (hr : RowAt h r cap ws) {k c : Nat} (hk : k < ws.length) (hc : c < 256) : ∃ h', sm_C PP X 38 [.ref r, .int (nI k), .int (nI c)] h = some (none, h') ∧ RowAt h' r cap (ws.set k c) ∧ Fr h h' (r + 1) (r + 2) := by
  obtain ⟨h1, ⟨h2, h3, h4⟩, f, h5, h6, h7⟩ := id hr
  refine ⟨sm_w h (r + 1) (.inl (.char, cap, .inl (upd f k (nI c)))), ?_, ⟨?_, ⟨by rw [List.length_set]; exact h2, h3, fun j => ?_⟩, upd f k (nI c), w_eq, fun j hj => ?_, fun j hj => ?_⟩, Fr.w.mono (Nat.le_refl _) (Nat.le_refl _)⟩
  · simp only [c38, b38_0, b38_5, b38_15, sm_gI_s, sm_gR_s, sm_gJ_s, sm_cR_s, sm_al_s, sm_sw_s, sm_tl1, sm_tl0, sm_ap0, sm_ap1, List.getElem?_cons_zero, List.getElem?_cons_succ, nk10, nk11, if_true, eq_self, vO h1, m36k hr hk, fO h1]
    rw [if_neg (by decide), nar2 (by omega), stO h5 (by omega) (by omega)]
  · rw [w_ne (by omega), List.length_set]
    exact h1
  · rw [nA_set hk]
    split
    · exact hc
    · exact h4 j
  · unfold upd
    by_cases e : j = k
    · rw [if_pos e]
      exact ⟨c, hc, rfl⟩
    · rw [if_neg e]
      exact h6 j hj
  · rw [List.length_set] at hj
    rw [nA_set hk]
    unfold upd
    by_cases e : j = k
    · rw [if_pos e, if_pos e]
    · rw [if_neg e, if_neg e]
      exact h7 j hj
theorem m39_loop {X : smX} {r r2 cap : Nat} {ws2 : List Nat} (hd : r + 2 ≤ r2 ∨ r2 + 2 ≤ r) : ∀ (d k : Nat), k + d = ws2.length → ∀ (h : smH) (ws : List Nat), RowAt h r cap ws → ws.length = ws2.length → (∀ j, j < k → nA ws j = nA ws2 j) → RowAt h r2 cap ws2 → ∃ h', sm_E PP X 39 18 [(0, .ref r), (1, .ref r2), (2, .int (nI k))] [] h = some (none, h') ∧ RowAt h' r cap ws2 ∧ Fr h h' r (r + 2) := by
  intro d
  induction d with
  | zero =>
    intro k hk h ws hr hl hj hr2
    have h2 := hr.2.1
    refine ⟨h, ?_, ?_, Fr.rf⟩
    · simp only [b39_18, sm_gI_s, sm_gR_s, sm_gJ_s, sm_cR_s, sm_al_s, sm_sw_s, sm_tl1, sm_tl0, sm_ap0, sm_ap1, List.getElem?_cons_zero, List.getElem?_cons_succ, nk10, nk11, if_true, eq_self, fO hr.1]
      rw [if_pos (nI_le (by omega) (by omega))]
    · obtain rfl : ws = ws2 := nA_ext hl (fun j h => hj j (by omega))
      exact hr
  | succ d ih =>
    intro k hk h ws hr hl hj hr2
    have h2 := hr.2.1
    obtain ⟨h', e1, hr', fr⟩ := m38 (X := X) hr (k := k) (c := nA ws2 k) (by omega) (hr2.2.1.2.2 k)
    obtain ⟨h'', e2, hr'', fr2⟩ := ih (k + 1) (by omega) h' (ws.set k (nA ws2 k)) hr' (by rw [List.length_set]; exact hl) (fun j h => by
      rw [nA_set (by omega)]
      split
      · rename_i e; rw [e]
      · exact hj j (by omega)) (hr2.fr fr (by omega))
    refine ⟨h'', ?_, hr'', fr.tr fr2 (by omega) (by omega) (by omega) (by omega)⟩
    simp only [b39_18, sm_gI_s, sm_gR_s, sm_gJ_s, sm_cR_s, sm_al_s, sm_sw_s, sm_tl1, sm_tl0, sm_ap0, sm_ap1, List.getElem?_cons_zero, List.getElem?_cons_succ, nk10, nk11, if_true, eq_self, fO hr.1]
    rw [if_neg (nI_ge (by omega) (by omega))]
    simp only [b39_33, b39_36, sm_gI_s, sm_gR_s, sm_gJ_s, sm_cR_s, sm_al_s, sm_sw_s, sm_tl1, sm_tl0, sm_ap0, sm_ap1, List.getElem?_cons_zero, List.getElem?_cons_succ, nk10, nk11, if_true, eq_self, vO hr2.1, m37k hr2 (show k < ws2.length by omega), vO hr.1, e1, nI_add, e2]
/-- copyFrom -/
theorem m39 {X : smX} {h : smH} {r r2 cap : Nat} {ws ws2 : List Nat} (hd : r + 2 ≤ r2 ∨ r2 + 2 ≤ r) (hr : RowAt h r cap ws) (hr2 : RowAt h r2 cap ws2) : ∃ h', sm_C PP X 39 [.ref r, .ref r2] h = some (none, h') ∧ RowAt h' r cap ws2 ∧ Fr h h' r (r + 2) := by
  obtain ⟨h1, ⟨h2, h3, h4⟩, f, h5, h6, h7⟩ := id hr
  obtain ⟨g1, ⟨g2, g3, g4⟩, -⟩ := id hr2
  have hb : ∀ k, ∃ c : Nat, k < cap → c < 256 ∧ f k = nI c := fun k => by
    by_cases hk : k < cap
    · obtain ⟨c, hc⟩ := h6 k hk
      exact ⟨c, fun _ => hc⟩
    · exact ⟨0, fun h => absurd h hk⟩
  obtain ⟨g, hg⟩ := Classical.axiomOfChoice hb
  have hr' : RowAt (sm_w h r (.inr (4, [.ref (r + 1), .int (nI ws2.length)]))) r cap ((List.range ws2.length).map g) := by
    have hnA : ∀ k, k < ws2.length → nA ((List.range ws2.length).map g) k = g k := fun k hk => by
      unfold nA
      rw [List.getD_eq_getElem?_getD, List.getElem?_map, List.getElem?_range hk]
      rfl
    refine ⟨by rw [w_eq, List.length_map, List.length_range], ⟨by rw [List.length_map, List.length_range]; exact g2, h3, fun k => ?_⟩, f, by rw [w_ne (by omega)]; exact h5, h6, fun k hk => ?_⟩
    · by_cases hk : k < ws2.length
      · rw [hnA k hk]; exact (hg k (by omega)).1
      · rw [nA_out (by rw [List.length_map, List.length_range]; omega)]; omega
    · rw [List.length_map, List.length_range] at hk
      rw [hnA k hk]
      exact (hg k (by omega)).2
  obtain ⟨h', e, hr'', fr⟩ := m39_loop (X := X) hd ws2.length 0 (by omega) _ _ hr' (by rw [List.length_map, List.length_range]) (fun j h => by omega) (hr2.kept (w_ne (by omega)) (w_ne (by omega)))
  refine ⟨h', ?_, hr'', Fr.w.tr fr (by omega) (by omega) (by omega) (by omega)⟩
  simp only [c39, b39_0, sm_gI_s, sm_gR_s, sm_gJ_s, sm_cR_s, sm_al_s, sm_sw_s, sm_tl1, sm_tl0, sm_ap0, sm_ap1, List.getElem?_cons_zero, List.getElem?_cons_succ, nk10, nk11, if_true, eq_self, fO g1, fO h1, aO h5]
  rw [if_neg (nI_nlt (by omega) (by omega)), pO h1 (by show 1 < 2; omega)]
  exact e
/-- worn: how many ? -/
theorem m54_loop {X : smX} {h : smH} {r cap : Nat} {ws : List Nat} (hr : RowAt h r cap ws) : ∀ (d k n : Nat), k + d = ws.length → n ≤ k → sm_E PP X 54 4 [(0, .ref r), (1, .int (nI n)), (2, .int (nI k))] [] h = some (some (.int (nI (n + (ws.drop k).count 63))), h) := by
  intro d
  induction d with
  | zero =>
    intro k n hk hn
    have h2 := hr.2.1
    simp only [b54_4, sm_gI_s, sm_gR_s, sm_gJ_s, sm_cR_s, sm_al_s, sm_sw_s, sm_tl1, sm_tl0, sm_ap0, sm_ap1, List.getElem?_cons_zero, List.getElem?_cons_succ, nk10, nk11, if_true, eq_self, fO hr.1]
    rw [if_pos (nI_le (by omega) (by omega)), List.drop_eq_nil_of_le (by omega)]
    rfl
  | succ d ih =>
    intro k n hk hn
    have h2 := hr.2.1
    simp only [b54_4, sm_gI_s, sm_gR_s, sm_gJ_s, sm_cR_s, sm_al_s, sm_sw_s, sm_tl1, sm_tl0, sm_ap0, sm_ap1, List.getElem?_cons_zero, List.getElem?_cons_succ, nk10, nk11, if_true, eq_self, fO hr.1]
    rw [if_neg (nI_ge (by omega) (by omega))]
    simp only [b54_17, b54_25, sm_gI_s, sm_gR_s, sm_gJ_s, sm_cR_s, sm_al_s, sm_sw_s, sm_tl1, sm_tl0, sm_ap0, sm_ap1, List.getElem?_cons_zero, List.getElem?_cons_succ, nk10, nk11, if_true, eq_self, vO hr.1, m37k hr (show k < ws.length by omega)]
    have hdrop : ws.drop k = nA ws k :: ws.drop (k + 1) := by
      rw [List.drop_eq_getElem_cons (by omega)]
      unfold nA
      rw [List.getD_eq_getElem?_getD, List.getElem?_eq_getElem (by omega)]
      rfl
    have hA := hr.2.1.2.2 k
    by_cases hc : nA ws k = 63
    · rw [hc, if_pos rfl, nI_add, nI_add, ih (k + 1) (n + 1) (by omega) (by omega), hdrop, hc, List.count_cons_self, Nat.add_assoc, Nat.add_comm 1]
    · rw [if_neg (fun q => hc ((nI_eq (by omega) (by omega)).mp q)), nI_add, ih (k + 1) n (by omega) (by omega), hdrop, List.count_cons_of_ne hc]
theorem m54 {X : smX} {h : smH} {r cap : Nat} {ws : List Nat} (hr : RowAt h r cap ws) : sm_C PP X 54 [.ref r] h = some (some (.int (nI (ws.count 63))), h) := by
  simp only [c54, b54_0]
  rw [m54_loop hr ws.length 0 0 (by omega) (by omega), List.drop_zero, Nat.zero_add]
