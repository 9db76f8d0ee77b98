/-! LEAST -/
def oU (o : Option Nat) : Int32 := match o with
  | none => -nI 1
  | some k => nI k
theorem neg1_ne {n : Nat} (h : n < 2 ^ 30) : ¬ nI n = -nI 1 := by
  rw [i_eq, nI_toInt (by omega), nI_neg (by omega)]
  omega
theorem oU_none {o : Option Nat} (ho : ∀ k, o = some k → k < 2 ^ 30) : (oU o = -nI 1) = (o = none) := by
  cases o with
  | none => exact propext ⟨fun _ => rfl, fun _ => rfl⟩
  | some k => exact propext ⟨fun h => absurd h (neg1_ne (ho k rfl)), fun h => by cases h⟩
theorem m82_loop {X : smX} {a n : Nat} {x : Int32} (hn : n ≤ 10000) : ∀ (d i : Nat), i + d = n → ∀ (h : smH) (f : Nat → Int32), IA h a n f → (∀ j, j < i → f j = x) → ∃ h' f', sm_E PP X 82 5 [(0, .ref a), (1, .int x), (2, .int (nI i)), (3, .int (nI n))] [] h = some (none, h') ∧ IA h' a n f' ∧ (∀ j, j < n → f' j = x) ∧ Fr h h' a (a + 1) := by
  intro d
  induction d with
  | zero =>
    intro i hi h f ha hf
    refine ⟨h, f, ?_, ha, fun j hj => hf j (by omega), Fr.rf⟩
    rw [b82_5, if_pos (nI_le (by omega) (by omega))]
  | succ d ih =>
    intro i hi h f ha hf
    obtain ⟨h', f', e, r, q, k⟩ := ih (i + 1) (by omega) (sm_w h a (.inl (.int, n, .inl (upd f i x)))) (upd f i x) w_eq (fun j hj => by
      by_cases e : j = i
      · rw [e, pk_us]
      · rw [pk_un e]; exact hf j (by omega))
    refine ⟨h', f', ?_, r, q, Fr.w.s k⟩
    rw [b82_5, if_neg (nI_ge (by omega) (by omega)), stO ha (by omega) (by omega), nI_add]
    exact e
theorem m82 {X : smX} {h : smH} {a n : Nat} {x : Int32} {f} (hn : n ≤ 10000) (ha : IA h a n f) : ∃ h' f', sm_C PP X 82 [.ref a, .int x] h = some (none, h') ∧ IA h' a n f' ∧ (∀ j, j < n → f' j = x) ∧ Fr h h' a (a + 1) := by
  rw [c82, b82_0, aO ha, sm_al_s]
  exact m82_loop hn n 0 (by omega) h f ha (fun j hj => by omega)
/-- the k-th here and a way behind: the DOUBT -/
def dwt (l : List (Nat × Nat)) (k : Nat) (beh : Nat → Option Nat) (sum : Nat) : Option Nat := if sum < pN l k then none else (match beh (sum - pN l k) with
  | none => none
  | some v => some (pD l k + v))
def laS (l : List (Nat × Nat)) (beh : Nat → Option Nat) (sum : Nat) : Nat → Nat → Option Nat → Option Nat
  | 0, _, best => best
  | r + 1, k, best => match dwt l k beh sum with
    | none => laS l beh sum r (k + 1) best
    | some d => (match best with
      | none => laS l beh sum r (k + 1) (some d)
      | some b => if d < b then laS l beh sum r (k + 1) (some d) else laS l beh sum r (k + 1) (some b))
theorem AgrAt.bd {h : smH} {A : Nat} {w : Ag} (r : AgrAt h A w) {i : Nat} (hi : i < w.1.length) : pN w.1 i < 1000 ∧ pD w.1 i < 100 := (r.2.2.choose_spec.choose_spec.2.2 i hi).2.2
theorem dwt_le {l : List (Nat × Nat)} {k sum v : Nat} {beh : Nat → Option Nat} (hB : ∀ x v, beh x = some v → v ≤ 1000) (hk : pD l k < 100) (h : dwt l k beh sum = some v) : v ≤ 1100 := by
  unfold dwt at h
  split at h
  · cases h
  · split at h
    · cases h
    · rename_i v2 e
      cases h
      have := hB _ _ e
      omega
theorem m84 {X : smX} {h : smH} {A k b sum : Nat} {w : Ag} {f} {beh : Nat → Option Nat} (r : AgrAt h A w) (hk : k < w.1.length) (ha : IA h b 5995 f) (hs : sum ≤ 5994) (hf : ∀ x, x ≤ sum → f x = oU (beh x)) (hB : ∀ x v, beh x = some v → v ≤ 1000) : sm_C PP X 84 [.ref A, .int (nI k), .ref b, .int (nI sum)] h = some (some (.int (oU (dwt w.1 k beh sum))), h) := by
  have hbd := r.bd hk
  rw [c84, b84_0, vO r.1, m77 r hk]
  simp only [sm_gI_s, sm_gR_s, sm_gJ_s, sm_cR_s, sm_al_s, sm_sw_s, sm_tl1, sm_tl0, sm_ap0, sm_ap1, List.getElem?_cons_zero, List.getElem?_cons_succ, nk10, nk11, if_true, eq_self, b84_6, b84_29, b84_36]
  unfold dwt
  by_cases h1 : sum < pN w.1 k
  · rw [if_pos (pk_sneg (by omega) h1), if_pos h1]
    rfl
  · rw [pk_sub (by omega), if_neg (nI_pos (by omega)), if_neg h1, aO ha]
    simp only [sm_gI_s, sm_gR_s, sm_gJ_s, sm_cR_s, sm_al_s, sm_sw_s, sm_tl1, sm_tl0, sm_ap0, sm_ap1, List.getElem?_cons_zero, List.getElem?_cons_succ, nk10, nk11, if_true, eq_self]
    rw [if_neg (nI_ge (by omega) (by omega)), ldO (by omega) (by omega), hf _ (by omega), vO r.1, m74 r hk]
    simp only [sm_gI_s, sm_gR_s, sm_gJ_s, sm_cR_s, sm_al_s, sm_sw_s, sm_tl1, sm_tl0, sm_ap0, sm_ap1, List.getElem?_cons_zero, List.getElem?_cons_succ, nk10, nk11, if_true, eq_self, b84_36, aO ha]
    cases e : beh (sum - pN w.1 k) with
    | none => rw [if_pos (show oU none = -nI 1 from rfl)]; rfl
    | some v =>
      have := hB _ _ e
      rw [if_neg (show ¬ oU (some v) = -nI 1 from neg1_ne (by omega)), ldO (by omega) (by omega), hf _ (by omega), e]
      show some (some (Value.int (nI _ + nI _)), h) = _
      rw [nI_add]
      rfl
theorem m85_loop {X : smX} {h : smH} {A b sum : Nat} {w : Ag} {f} {beh : Nat → Option Nat} (r : AgrAt h A w) (ha : IA h b 5995 f) (hs : sum ≤ 5994) (hf : ∀ x, x ≤ sum → f x = oU (beh x)) (hB : ∀ x v, beh x = some v → v ≤ 1000) : ∀ (d k : Nat) (o : Option Nat), k + d = w.1.length → (∀ v, o = some v → v ≤ 1100) → sm_E PP X 85 5 [(0, .ref A), (1, .ref b), (2, .int (nI sum)), (3, .int (oU o)), (4, .int (nI k))] [] h = some (some (.int (oU (laS w.1 beh sum d k o))), h) := by
  intro d
  have hl := r.2.1
  induction d with
  | zero =>
    intro k o hk ho
    rw [b85_5]
    simp only [fO r.1, sm_gI_s, sm_gR_s, sm_gJ_s, sm_cR_s, sm_al_s, sm_sw_s, sm_tl1, sm_tl0, sm_ap0, sm_ap1, List.getElem?_cons_zero, List.getElem?_cons_succ, nk10, nk11, if_true, eq_self]
    rw [if_pos (nI_le (by omega) (by omega))]
    rfl
  | succ d ih =>
    intro k o hk ho
    have hbd := r.bd (i := k) (by omega)
    have hD : ∀ v, dwt w.1 k beh sum = some v → v ≤ 1100 := fun v hv => dwt_le hB hbd.2 hv
    rw [b85_5]
    simp only [fO r.1, sm_gI_s, sm_gR_s, sm_gJ_s, sm_cR_s, sm_al_s, sm_sw_s, sm_tl1, sm_tl0, sm_ap0, sm_ap1, List.getElem?_cons_zero, List.getElem?_cons_succ, nk10, nk11, if_true, eq_self, m84 r (show k < w.1.length by omega) ha hs hf hB, b85_22, b85_44, b85_41, nI_add, oU_none (fun k hk => by have := hD k hk; omega), oU_none (fun k hk => by have := ho k hk; omega)]
    rw [if_neg (nI_ge (by omega) (by omega))]
    unfold laS
    cases e : dwt w.1 k beh sum with
    | none =>
      rw [if_pos rfl]
      exact ih (k + 1) o (by omega) ho
    | some v =>
      have hv := hD v e
      rw [if_neg (by intro q; cases q)]
      cases o with
      | none =>
        rw [if_pos rfl]
        exact ih (k + 1) (some v) (by omega) (fun x hx => by cases hx; omega)
      | some q =>
        have hq := ho q rfl
        rw [if_neg (by intro q; cases q)]
        dsimp only
        by_cases h1 : v < q
        · rw [if_pos h1, if_neg (show ¬ oU (some q) ≤ oU (some v) from nI_ge h1 (by omega))]
          exact ih (k + 1) (some v) (by omega) (fun x hx => by cases hx; omega)
        · rw [if_neg h1, if_pos (show oU (some q) ≤ oU (some v) from nI_le (by omega) (by omega))]
          exact ih (k + 1) (some q) (by omega) ho
theorem m85 {X : smX} {h : smH} {A b sum : Nat} {w : Ag} {f} {beh : Nat → Option Nat} (r : AgrAt h A w) (ha : IA h b 5995 f) (hs : sum ≤ 5994) (hf : ∀ x, x ≤ sum → f x = oU (beh x)) (hB : ∀ x v, beh x = some v → v ≤ 1000) : sm_C PP X 85 [.ref A, .ref b, .int (nI sum)] h = some (some (.int (oU (laS w.1 beh sum w.1.length 0 none))), h) := by
  rw [c85, b85_0]
  exact m85_loop r ha hs hf hB w.1.length 0 none (by omega) (fun v hv => by cases hv)
/-- the first here with which the DOUBT is v -/
def loI (l : List (Nat × Nat)) (beh : Nat → Option Nat) (sum v : Nat) : Nat → Nat → Nat
  | 0, _ => 0
  | r + 1, k => if dwt l k beh sum = some v then pN l k else loI l beh sum v r (k + 1)
theorem m87_loop {X : smX} {h : smH} {A b a sum v : Nat} {w : Ag} {f g} {beh : Nat → Option Nat} (r : AgrAt h A w) (ha : IA h b 5995 f) (hg : IA h a 5995 g) (hv : g sum = nI v) (hv2 : v ≤ 1100) (hs : sum ≤ 5994) (hf : ∀ x, x ≤ sum → f x = oU (beh x)) (hB : ∀ x v, beh x = some v → v ≤ 1000) : ∀ (d k : Nat), k + d = w.1.length → sm_E PP X 87 15 [(0, .ref A), (1, .ref a), (2, .ref b), (3, .int (nI sum)), (4, .int (nI k))] [] h = some (some (.int (nI (loI w.1 beh sum v d k))), h) := by
  intro d
  have hl := r.2.1
  induction d with
  | zero =>
    intro k hk
    rw [b87_15]
    simp only [fO r.1, sm_gI_s, sm_gR_s, sm_gJ_s, sm_cR_s, sm_al_s, sm_sw_s, sm_tl1, sm_tl0, sm_ap0, sm_ap1, List.getElem?_cons_zero, List.getElem?_cons_succ, nk10, nk11, if_true, eq_self]
    rw [if_pos (nI_le (by omega) (by omega))]
    rfl
  | succ d ih =>
    intro k hk
    have hbd := r.bd (i := k) (by omega)
    have hD : ∀ v, dwt w.1 k beh sum = some v → v ≤ 1100 := fun v hv => dwt_le hB hbd.2 hv
    rw [b87_15]
    simp only [fO r.1, sm_gI_s, sm_gR_s, sm_gJ_s, sm_cR_s, sm_al_s, sm_sw_s, sm_tl1, sm_tl0, sm_ap0, sm_ap1, List.getElem?_cons_zero, List.getElem?_cons_succ, nk10, nk11, if_true, eq_self, m84 r (show k < w.1.length by omega) ha hs hf hB, b87_32, b87_55, b87_54, nI_add, aO hg, vO r.1, m77 r (show k < w.1.length by omega), oU_none (fun k hk => by have := hD k hk; omega)]
    rw [if_neg (nI_ge (by omega) (by omega)), ldO (show sum < 5995 by omega) (by omega), hv]
    unfold loI
    cases e : dwt w.1 k beh sum with
    | none =>
      rw [if_pos rfl, if_neg (by intro q; cases q)]
      exact ih (k + 1) (by omega)
    | some x =>
      have hx := hD x e
      rw [if_neg (by intro q; cases q)]
      by_cases h1 : x = v
      · rw [if_pos (show oU (some x) = nI v by rw [h1]; rfl), if_pos (by rw [h1])]
      · rw [if_neg (show ¬ oU (some x) = nI v from fun q => h1 ((nI_eq (by omega) (by omega)).mp q)), if_neg (by intro q; cases q; exact h1 rfl)]
        exact ih (k + 1) (by omega)
theorem m87 {X : smX} {h : smH} {A b a sum v : Nat} {w : Ag} {f g} {beh : Nat → Option Nat} (r : AgrAt h A w) (ha : IA h b 5995 f) (hg : IA h a 5995 g) (hv : g sum = nI v) (hv2 : v ≤ 1100) (hs : sum ≤ 5994) (hf : ∀ x, x ≤ sum → f x = oU (beh x)) (hB : ∀ x v, beh x = some v → v ≤ 1000) : sm_C PP X 87 [.ref A, .ref a, .ref b, .int (nI sum)] h = some (some (.int (nI (loI w.1 beh sum v w.1.length 0))), h) := by
  rw [c87, b87_0, if_neg (nI_pos (by omega)), aO hg]
  simp only [sm_gI_s, sm_gR_s, sm_gJ_s, sm_cR_s, sm_al_s, sm_sw_s, sm_tl1, sm_tl0, sm_ap0, sm_ap1, List.getElem?_cons_zero, List.getElem?_cons_succ, nk10, nk11, if_true, eq_self]
  rw [if_pos (nI_lt (by omega) (by omega))]
  exact m87_loop r ha hg hv hv2 hs hf hB w.1.length 0 (by omega)
