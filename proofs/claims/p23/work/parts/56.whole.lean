/-! the law's whole(o): a number of the sheet alone -/
def dgc (v : Nat → Int32) : Nat → Nat → Int64 → Int64
  | 0, _, a => a
  | r + 1, k, a => dgc v r (k + 1) (lN 31 * a + (v k).toInt64)
def cv (s : Sh) (k : Nat) : Int32 := qCount (([], s, [], fun _ => none) : St) (nI k)
def dgr (w : List Nat) (a : Int64) : Int64 := dgc (fun k => nI (nA w k)) w.length 0 (lN 31 * a + (nI w.length).toInt64)
def dge (s : Sh) : Nat → Nat → Int64 → Int64
  | 0, _, a => a
  | r + 1, e, a => dge s r (e + 1) (dgr (en s e).2 (dgr (en s e).1 a))
def dg (s : Sh) : Int64 := dge s s.1.length 0 (dgc (cv s) 5 0 (lN 83))
theorem kcv {X : smX} {h : smH} {B k : Nat} {σ : St} (r : RepC h B σ) (hk : k < 5) : Ct X 105 [.ref B, .int (nI k)] h B (.int (cv σ.2.1 k)) σ := by
  have c := m105 (X := X) r (nI k)
  have e : qCount σ (nI k) = cv σ.2.1 k := by
    unfold cv qCount
    have h5 : ¬ nI k = nI 5 := fun q => by rw [nI_eq (by omega) (by omega)] at q; omega
    have h6 : ¬ nI k = nI 6 := fun q => by rw [nI_eq (by omega) (by omega)] at q; omega
    rw [if_neg h5, if_neg h6, if_neg h5, if_neg h6]
  rw [e] at c
  exact c
section W109
variable {X : smX} {B : Nat} {σ : St} {h0 : smH} {Q : Option Value → St → Prop}
theorem w109_6 : ∀ (d k : Nat) (a : Int64) (h : smH), k + d = 5 → RepC h B σ → Fr h0 h B (B + 338) → (∀ h, RepC h B σ → Fr h0 h B (B + 338) → G B h0 Q (sm_E PP X 109 32 [(0, .ref B), (1, .long (dgc (cv σ.2.1) d k a)), (3, .int (nI 0))] [] h)) → G B h0 Q (sm_E PP X 109 6 [(0, .ref B), (1, .long a), (3, .int (nI k))] [] h) := by
  intro d
  induction d with
  | zero =>
    intro k a h hd r f K
    rw [b109_6, if_pos (nI_le (by omega) (by omega))]
    exact K h r f
  | succ d ih =>
    intro k a h hd r f K
    rw [b109_6, if_neg (nI_ge (by omega) (by omega))]
    refine G.v (kcv r (by omega)) r f fun h r f => ?_
    rw [b109_21, nI_add]
    exact ih (k + 1) _ h (by omega) r f K
theorem w109_72 {e p : Nat} (he : e < σ.2.1.1.length) (hp : p < 2) : ∀ (d k : Nat) (a : Int64) (h : smH), k + d = (rowF σ.2.1 e p).length → RepC h B σ → Fr h0 h B (B + 338) → (∀ h, RepC h B σ → Fr h0 h B (B + 338) → G B h0 Q (sm_E PP X 109 44 [(0, .ref B), (1, .long (dgc (fun k => nI (nA (rowF σ.2.1 e p) k)) d k a)), (3, .int (nI e)), (4, .int (nI (p + 1)))] [] h)) → G B h0 Q (sm_E PP X 109 72 [(0, .ref B), (1, .long a), (3, .int (nI e)), (4, .int (nI p)), (5, .int (nI (rowF σ.2.1 e p).length)), (6, .int (nI k))] [] h) := by
  intro d
  induction d with
  | zero =>
    intro k a h hd r f K
    have hl := (r.row (f := p) he).1
    rw [b109_72, if_pos (nI_le (by omega) (by omega)), nI_add]
    exact K h r f
  | succ d ih =>
    intro k a h hd r f K
    have hl := (r.row (f := p) he).1
    rw [b109_72, if_neg (nI_ge (by omega) (by omega))]
    refine G.v (k72 r he hp (by omega)) r f fun h r f => ?_
    rw [b109_93, nI_add]
    exact ih (k + 1) _ h (by omega) r f K
theorem w109_44 {e p : Nat} {a : Int64} {h : smH} (he : e < σ.2.1.1.length) (hp : p < 2) (r : RepC h B σ) (f : Fr h0 h B (B + 338)) (K : ∀ h, RepC h B σ → Fr h0 h B (B + 338) → G B h0 Q (sm_E PP X 109 44 [(0, .ref B), (1, .long (dgr (rowF σ.2.1 e p) a)), (3, .int (nI e)), (4, .int (nI (p + 1)))] [] h)) : G B h0 Q (sm_E PP X 109 44 [(0, .ref B), (1, .long a), (3, .int (nI e)), (4, .int (nI p))] [] h) := by
  rw [b109_44, if_neg (nI_ge hp (by omega))]
  refine G.v (k71_l r he hp) r f fun h r f => ?_
  rw [b109_57]
  exact w109_72 he hp _ 0 _ h (by omega) r f K
theorem w109_32 : ∀ (d e : Nat) (a : Int64) (h : smH), e + d = σ.2.1.1.length → RepC h B σ → Fr h0 h B (B + 338) → Q (some (.long (dge σ.2.1 d e a))) σ → G B h0 Q (sm_E PP X 109 32 [(0, .ref B), (1, .long a), (3, .int (nI e))] [] h) := by
  intro d
  induction d with
  | zero =>
    intro e a h hd r f K
    have h6 := r.h6
    rw [b109_32]
    refine G.v (k105_0 r) r f fun h r f => ?_
    rw [b109_38, if_pos (nI_le (by omega) (by omega))]
    exact G.d r f K
  | succ d ih =>
    intro e a h hd r f K
    have h6 := r.h6
    rw [b109_32]
    refine G.v (k105_0 r) r f fun h r f => ?_
    rw [b109_38, if_neg (nI_ge (by omega) (by omega))]
    refine w109_44 (by omega) (by omega) r f fun h r f => ?_
    refine w109_44 (by omega) (by omega) r f fun h r f => ?_
    rw [b109_44, if_pos (nI_le (by omega) (by omega)), nI_add]
    exact ih (e + 1) _ h (by omega) r f K
end W109
theorem m109 {X : smX} {h : smH} {B : Nat} {σ : St} (r : RepC h B σ) : Ct X 109 [.ref B] h B (.long (dg σ.2.1)) σ := by
  refine G.ct ?_
  rw [c109, b109_0]
  refine w109_6 5 0 _ h (by omega) r Fr.rf fun h r f => ?_
  exact w109_32 _ 0 _ h (by omega) r f ⟨rfl, rfl⟩
theorem cmp_eq (a : Int64) : lg_cmp a a = 0 := by
  unfold lg_cmp
  simp
