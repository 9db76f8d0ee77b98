/-! tools: what a step comes to where the cells are known; numbers -/
theorem sm_gI_s {v : Int32} {κ : Int32 → smR} : sm_gI (some (.int v)) κ = κ v := rfl
theorem sm_gJ_s {v : Int64} {κ : Int64 → smR} : sm_gJ (some (.long v)) κ = κ v := rfl
theorem sm_gR_s {v : Nat} {κ : Nat → smR} : sm_gR (some (.ref v)) κ = κ v := rfl
theorem sm_cR_s {v : Option Value} {h : smH} {κ : Option Value → smH → smR} : sm_cR (some (v, h)) κ = κ v h := rfl
theorem sm_al_s {t : FieldType} {n : Nat} {g} {κ : Nat → smR} : sm_al (some (t, n, g)) κ = κ n := rfl
theorem sm_sw_s {o : Int} {κ : Int → smR} : sm_sw (some o) κ = κ o := rfl
theorem sm_tl1 {v : Value} {l : List Value} : (some v).toList ++ l = v :: l := rfl
theorem sm_tl0 {l : List Value} : (none : Option Value).toList ++ l = l := rfl
theorem sm_ap0 {l : List Value} : [] ++ l = l := rfl
theorem sm_ap1 {v : Value} {l : List Value} : [v] ++ l = v :: l := rfl
theorem nk10 : narrow (sm_nk 1) (.int (nI 0)) = .int (nI 0) := by decide
theorem nk11 : narrow (sm_nk 1) (.int (nI 1)) = .int (nI 1) := by decide
theorem nk2 {q : Nat} (hq : q < 65536) : narrow (sm_nk 2) (.int (nI q)) = .int (nI q) := (pk_charN hq).1
theorem nar2 {q : Nat} (hq : q < 65536) : vp_nar .char (nI q) = nI q := by
  unfold vp_nar
  rw [(pk_charN hq).1]
/-- an object's field, its class -/
theorem fO {h : smH} {a c k : Nat} {fs : List Value} (hh : h.1 a = some (.inr (c, fs))) : sm_f h a c k = fs[k]? := by
  unfold sm_f
  rw [hh]
  show (bif Nat.beq c c then fs[k]? else none) = _
  rw [Nat.beq_refl]
  rfl
theorem vO {h : smH} {a c : Nat} {fs : List Value} {r : smR} (hh : h.1 a = some (.inr (c, fs))) : sm_vc h a c r = r := by
  unfold sm_vc
  rw [hh]
  show (bif Nat.beq c c then r else none) = _
  rw [Nat.beq_refl]
  rfl
theorem pO {h : smH} {a c k : Nat} {fs : List Value} {v : Value} {κ : smH → smR} (hh : h.1 a = some (.inr (c, fs))) (hk : k < fs.length) : sm_fP h a c k v κ = κ (sm_w h a (.inr (c, fs.set k v))) := by
  unfold sm_fP
  rw [hh]
  show (bif Nat.beq c c && Nat.blt k fs.length then κ (sm_w h a (.inr (c, fs.set k v))) else none) = _
  rw [Nat.beq_refl, show Nat.blt k fs.length = true from Nat.ble_eq_true_of_le hk]
  rfl
/-- an array: itself, its length, an element, a store -/
theorem aO {P : smP} {X : smX} {h : smH} {a : Nat} {x : FieldType × vp_A} (hh : h.1 a = some (.inl x)) : sm_ar P X h (.ref a) = some x := by
  show (match h.1 a with | some (.inl x) => some x | _ => none) = _
  rw [hh]
theorem nI_rng {i n : Nat} (hi : i < n) (hn : n < 2 ^ 31) : ¬ (nI i < 0 ∨ n ≤ (nI i).toNatClampNeg) := by
  rw [nI_clamp (by omega)]
  rintro (h | h)
  · exact nI_pos (by omega) h
  · omega
theorem ldO {ty : FieldType} {n i : Nat} {f : Nat → Int32} {κ : Int32 → smR} (hi : i < n) (hn : n < 2 ^ 31) : sm_ld (some (ty, n, .inl f)) ty (nI i) κ = κ (f i) := by
  show (if ty = ty then (if nI i < 0 ∨ n ≤ (nI i).toNatClampNeg then none else κ (f (nI i).toNatClampNeg)) else none) = _
  rw [if_pos rfl, if_neg (nI_rng hi hn), nI_clamp (by omega)]
theorem ldR {ty : FieldType} {n i b : Nat} {f : Nat → Option Nat} {κ : Nat → smR} (ht : ty.isReference = true) (hi : i < n) (hn : n < 2 ^ 31) (hb : f i = some b) : sm_ldR (some (ty, n, .inr (.inr (.inr (.inr f))))) (nI i) κ = κ b := by
  show (bif ty.isReference then (if nI i < 0 ∨ n ≤ (nI i).toNatClampNeg then none else (match f (nI i).toNatClampNeg with | some b => κ b | none => none)) else none) = _
  rw [ht, if_neg (nI_rng hi hn), nI_clamp (by omega), hb]
  rfl
theorem stO {h : smH} {a n i : Nat} {ty : FieldType} {f : Nat → Int32} {x : Int32} {κ : smH → smR} (hh : h.1 a = some (.inl (ty, n, .inl f))) (hi : i < n) (hn : n < 2 ^ 31) : sm_st h a ty (nI i) x κ = κ (sm_w h a (.inl (ty, n, .inl (upd f i x)))) := by
  unfold sm_st
  rw [hh]
  show (if ty = ty then (if nI i < 0 ∨ n ≤ (nI i).toNatClampNeg then none else κ (sm_w h a (.inl (ty, n, .inl (upd f (nI i).toNatClampNeg x))))) else none) = _
  rw [if_pos rfl, if_neg (nI_rng hi hn), nI_clamp (by omega)]
theorem w_eq {h : smH} {a : Nat} {e : smC} : (sm_w h a e).1 a = some e := if_pos rfl
theorem w_ne {h : smH} {a b : Nat} {e : smC} (hb : b ≠ a) : (sm_w h a e).1 b = h.1 b := if_neg hb
theorem w_2 {h : smH} {a : Nat} {e : smC} : (sm_w h a e).2 = h.2 := rfl
/-- numbers -/
theorem i_lt {a b : Int32} : (a < b) = (a.toInt < b.toInt) := propext Int32.lt_iff_toInt_lt
theorem i_le {a b : Int32} : (a ≤ b) = (a.toInt ≤ b.toInt) := propext Int32.le_iff_toInt_le
theorem i_eq {a b : Int32} : (a = b) = (a.toInt = b.toInt) := propext Int32.toInt_inj.symm
theorem i_0 : (0 : Int32).toInt = 0 := by decide
theorem nI_neg {n : Nat} (h : n < 2 ^ 31) : (-nI n).toInt = -(n : Int) := by
  rw [Int32.toInt_neg, nI_toInt h]
  unfold Int.bmod
  dsimp only
  split <;> omega
/-- a number given from outside: below 0, or a natural number -/
theorem i_cases (x : Int32) : x.toInt < 0 ∨ ∃ k : Nat, k < 2 ^ 31 ∧ x = nI k := by
  by_cases h : x < 0
  · left
    have h2 := Int32.lt_iff_toInt_lt.mp h
    rw [i_0] at h2
    exact h2
  · obtain ⟨j, h1, h2⟩ := nI_of h
    exact Or.inr ⟨j, h1, h2⟩
