/-! walking the law's methods: a judgement of a run, and short contracts of the class' calls -/
def G (B : Nat) (h0 : smH) (Q : Option Value → St → Prop) (r : smR) : Prop := ∃ v h' σ, r = some (v, h') ∧ RepC h' B σ ∧ Fr h0 h' B (B + 338) ∧ Q v σ
def Ct (X : smX) (m : Nat) (args : List Value) (h : smH) (B : Nat) (v : Value) (σ : St) : Prop := ∃ h', sm_C PP X m args h = some (some v, h') ∧ RepC h' B σ ∧ Fr h h' B (B + 338)
theorem G.v {X : smX} {B m m2 pc : Nat} {h0 h : smH} {Q : Option Value → St → Prop} {args st : List Value} {v : Value} {σ σ' : St} {ls : smL} (c : Ct X m (.ref B :: args) h B v σ') (r : RepC h B σ) (f : Fr h0 h B (B + 338)) (k : ∀ h', RepC h' B σ' → Fr h0 h' B (B + 338) → G B h0 Q (sm_E PP X m2 pc ls (v :: st) h')) : G B h0 Q (sm_vc h B 7 (sm_cR (sm_C PP X m (.ref B :: args) h) fun w h2 => sm_E PP X m2 pc ls (w.toList ++ st) h2)) := by
  obtain ⟨h', e, r', f'⟩ := c
  rw [vO r.1.1, e]
  exact k h' r' (f.s f')
theorem G.s {X : smX} {B m m2 pc : Nat} {h0 h : smH} {Q : Option Value → St → Prop} {args st : List Value} {v : Value} {σ' : St} {ls : smL} (c : Ct X m args h B v σ') (f : Fr h0 h B (B + 338)) (k : ∀ h', RepC h' B σ' → Fr h0 h' B (B + 338) → G B h0 Q (sm_E PP X m2 pc ls (v :: st) h')) : G B h0 Q (sm_cR (sm_C PP X m args h) fun w h2 => sm_E PP X m2 pc ls (w.toList ++ st) h2) := by
  obtain ⟨h', e, r', f'⟩ := c
  rw [e]
  exact k h' r' (f.s f')
theorem G.d {B : Nat} {h0 h : smH} {Q : Option Value → St → Prop} {v : Option Value} {σ : St} (r : RepC h B σ) (f : Fr h0 h B (B + 338)) (q : Q v σ) : G B h0 Q (some (v, h)) := ⟨v, h, σ, rfl, r, f, q⟩
theorem G.b {B : Nat} {h0 h : smH} {Q : Option Value → St → Prop} {σ : St} (r : RepC h B σ) (f : Fr h0 h B (B + 338)) (q : Q (some (.int (nI 1))) σ) : G B h0 Q (if narrow (sm_nk 1) (.int (nI 1)) = .int (nI 1) then some (some (.int (nI 1)), h) else none) := by
  rw [if_pos nk11]
  exact G.d r f q
/-- the answer 1, and the state as it was -/
def yes (σ : St) (v : Option Value) (s : St) : Prop := v = some (.int (nI 1)) ∧ s = σ
theorem G.ct {X : smX} {B m : Nat} {h : smH} {args : List Value} {v : Value} {σ : St} (g : G B h (fun w s => w = some v ∧ s = σ) (sm_C PP X m args h)) : Ct X m args h B v σ := by
  obtain ⟨w, h', s, e, r, f, rfl, rfl⟩ := g
  exact ⟨h', e, r, f⟩
theorem RepC.h6 {h : smH} {B : Nat} {σ : St} (r : RepC h B σ) : σ.2.1.1.length ≤ 6 := r.1.2.2.1.2.1.1
theorem RepC.sb {h : smH} {B : Nat} {σ : St} (r : RepC h B σ) : SBd σ.2.1 := r.1.2.2.1.2.1
theorem RepC.ok {h : smH} {B : Nat} {σ : St} (r : RepC h B σ) : agOk σ.2.1 := by
  obtain ⟨h', L, e, c, f, k⟩ := m68R (X := ((0, fun _ => 0) : smX)) r
  exact f.ok r.h6
theorem RepC.row {h : smH} {B e f : Nat} {σ : St} (r : RepC h B σ) (he : e < σ.2.1.1.length) : (rowF σ.2.1 e f).length ≤ 31 ∧ ∀ k, nA (rowF σ.2.1 e f) k < 256 := by
  have a := r.1.2.2.1.row (f := f) he
  exact ⟨Nat.le_trans a.2.1.1 a.2.1.2.1, a.2.1.2.2⟩
theorem ag_len {s : Sh} {e : Nat} : (agE s e).1.length ≤ 1000 := agl_len 1000 0
theorem ag_w {s : Sh} {e : Nat} : (agE s e).2.1 ≤ 1000 := cnt_le 1000 0
theorem ag_f {s : Sh} {e : Nat} : (agE s e).2.2 ≤ 1000 := cnt_le 1000 0
theorem k105_0 {X : smX} {h : smH} {B : Nat} {σ : St} (r : RepC h B σ) : Ct X 105 [.ref B, .int (nI 0)] h B (.int (nI σ.2.1.1.length)) σ := by
  have c := m105 (X := X) r (nI 0)
  unfold qCount at c
  rw [if_pos rfl] at c
  exact c
theorem k105_1 {X : smX} {h : smH} {B : Nat} {σ : St} (r : RepC h B σ) : Ct X 105 [.ref B, .int (nI 1)] h B (.int (nI (alt σ.2.1 σ.2.1.1.length 0 0))) σ := by
  have c := m105 (X := X) r (nI 1)
  unfold qCount at c
  rw [if_neg (by decide), if_pos rfl] at c
  exact c
theorem k105_2 {X : smX} {h : smH} {B : Nat} {σ : St} (r : RepC h B σ) : Ct X 105 [.ref B, .int (nI 2)] h B (.int (nI σ.2.1.2.1)) σ := by
  have c := m105 (X := X) r (nI 2)
  unfold qCount at c
  rw [if_neg (by decide), if_neg (by decide), if_pos rfl] at c
  exact c
theorem k105_3 {X : smX} {h : smH} {B : Nat} {σ : St} (r : RepC h B σ) : Ct X 105 [.ref B, .int (nI 3)] h B (.int (oI σ.2.1.2.2)) σ := by
  have c := m105 (X := X) r (nI 3)
  unfold qCount at c
  rw [if_neg (by decide), if_neg (by decide), if_neg (by decide), if_pos rfl] at c
  exact c
theorem k105_4 {X : smX} {h : smH} {B : Nat} {σ : St} (r : RepC h B σ) : Ct X 105 [.ref B, .int (nI 4)] h B (.int (nI (wornA σ.2.1 σ.2.1.1.length 0 0))) σ := by
  have c := m105 (X := X) r (nI 4)
  unfold qCount at c
  rw [if_neg (by decide), if_neg (by decide), if_neg (by decide), if_neg (by decide), if_pos rfl] at c
  exact c
theorem k105_5 {X : smX} {h : smH} {B : Nat} {σ : St} (r : RepC h B σ) : Ct X 105 [.ref B, .int (nI 5)] h B (.int (nI σ.1.length)) σ := by
  have c := m105 (X := X) r (nI 5)
  unfold qCount at c
  rw [if_neg (by decide), if_neg (by decide), if_neg (by decide), if_neg (by decide), if_neg (by decide), if_pos rfl] at c
  exact c
theorem k105_6 {X : smX} {h : smH} {B : Nat} {σ : St} (r : RepC h B σ) : Ct X 105 [.ref B, .int (nI 6)] h B (.int (nI σ.2.2.1.length)) σ := by
  have c := m105 (X := X) r (nI 6)
  unfold qCount at c
  rw [if_neg (by decide), if_neg (by decide), if_neg (by decide), if_neg (by decide), if_neg (by decide), if_neg (by decide), if_pos rfl] at c
  exact c
theorem k71_0 {X : smX} {h : smH} {B e : Nat} {σ : St} (r : RepC h B σ) (he : e < σ.2.1.1.length) : Ct X 71 [.ref B, .int (nI e), .int (nI 0)] h B (.int (nI (en σ.2.1 e).1.length)) σ := by
  have h6 := r.h6
  have c := m71 (X := X) r (nI e) (nI 0)
  unfold qEntry at c
  rw [vN_t he (by omega), if_pos rfl, nTN (by omega)] at c
  unfold qEn at c
  rw [if_pos rfl] at c
  exact c
theorem k71_1 {X : smX} {h : smH} {B e : Nat} {σ : St} (r : RepC h B σ) (he : e < σ.2.1.1.length) : Ct X 71 [.ref B, .int (nI e), .int (nI 1)] h B (.int (nI (en σ.2.1 e).2.length)) σ := by
  have h6 := r.h6
  have c := m71 (X := X) r (nI e) (nI 1)
  unfold qEntry at c
  rw [vN_t he (by omega), if_pos rfl, nTN (by omega)] at c
  unfold qEn at c
  rw [if_neg (by decide), if_pos rfl] at c
  exact c
theorem k71_2 {X : smX} {h : smH} {B e : Nat} {σ : St} (r : RepC h B σ) (he : e < σ.2.1.1.length) : Ct X 71 [.ref B, .int (nI e), .int (nI 2)] h B (.int (nI (wornE (en σ.2.1 e)))) σ := by
  have h6 := r.h6
  have c := m71 (X := X) r (nI e) (nI 2)
  unfold qEntry at c
  rw [vN_t he (by omega), if_pos rfl, nTN (by omega)] at c
  unfold qEn at c
  rw [if_neg (by decide), if_neg (by decide), if_pos rfl] at c
  exact c
theorem k71_3 {X : smX} {h : smH} {B e : Nat} {σ : St} (r : RepC h B σ) (he : e < σ.2.1.1.length) : Ct X 71 [.ref B, .int (nI e), .int (nI 3)] h B (.int (nI (agE σ.2.1 e).2.1)) σ := by
  have h6 := r.h6
  have c := m71 (X := X) r (nI e) (nI 3)
  unfold qEntry at c
  rw [vN_t he (by omega), if_pos rfl, nTN (by omega)] at c
  unfold qEn at c
  rw [if_neg (by decide), if_neg (by decide), if_neg (by decide), if_pos rfl] at c
  exact c
theorem k71_4 {X : smX} {h : smH} {B e : Nat} {σ : St} (r : RepC h B σ) (he : e < σ.2.1.1.length) : Ct X 71 [.ref B, .int (nI e), .int (nI 4)] h B (.int (nI (agE σ.2.1 e).2.2)) σ := by
  have h6 := r.h6
  have c := m71 (X := X) r (nI e) (nI 4)
  unfold qEntry at c
  rw [vN_t he (by omega), if_pos rfl, nTN (by omega)] at c
  unfold qEn at c
  rw [if_neg (by decide), if_neg (by decide), if_neg (by decide), if_neg (by decide), if_pos rfl] at c
  exact c
theorem k71_5 {X : smX} {h : smH} {B e : Nat} {σ : St} (r : RepC h B σ) (he : e < σ.2.1.1.length) : Ct X 71 [.ref B, .int (nI e), .int (nI 5)] h B (.int (nI (agE σ.2.1 e).1.length)) σ := by
  have h6 := r.h6
  have c := m71 (X := X) r (nI e) (nI 5)
  unfold qEntry at c
  rw [vN_t he (by omega), if_pos rfl, nTN (by omega)] at c
  unfold qEn at c
  rw [if_neg (by decide), if_neg (by decide), if_neg (by decide), if_neg (by decide), if_neg (by decide), if_pos rfl] at c
  exact c
theorem k71_l {X : smX} {h : smH} {B e f : Nat} {σ : St} (r : RepC h B σ) (he : e < σ.2.1.1.length) (hf : f < 2) : Ct X 71 [.ref B, .int (nI e), .int (nI f)] h B (.int (nI (rowF σ.2.1 e f).length)) σ := by
  unfold rowF
  by_cases h0 : f = 0
  · subst h0; rw [if_pos rfl]; exact k71_0 r he
  · obtain rfl : f = 1 := by omega
    rw [if_neg (by decide)]; exact k71_1 r he
theorem vR_t2 {s : Sh} {e f : Nat} (h6 : s.1.length ≤ 6) (he : e < s.1.length) (hf : f < 2) : vR s (nI e) (nI f) = true := vR_t he hf (by omega)
theorem k78 {X : smX} {h : smH} {B e k f : Nat} {σ : St} (r : RepC h B σ) (he : e < σ.2.1.1.length) (hk : k < 2 ^ 31) (hf : f < 2) : Ct X 78 [.ref B, .int (nI e), .int (nI k), .int (nI f)] h B (.int (qRank σ.2.1 e k f)) σ := by
  have h6 := r.h6
  have c := m78 (X := X) r (nI e) (nI k) (nI f)
  unfold qRanked at c
  rw [vR_t2 h6 he hf, if_pos rfl, if_pos (by rw [nI_toInt hk]; omega), nTN (by omega), nTN hk, nTN (by omega)] at c
  exact c
theorem k78_0 {X : smX} {h : smH} {B e k : Nat} {σ : St} (r : RepC h B σ) (he : e < σ.2.1.1.length) (hk : k < (agE σ.2.1 e).1.length) : Ct X 78 [.ref B, .int (nI e), .int (nI k), .int (nI 0)] h B (.int (nI (pN (agE σ.2.1 e).1 (rk (agE σ.2.1 e).1 k)))) σ := by
  have c := k78 (X := X) (f := 0) r he (show k < 2 ^ 31 by have := ag_len (s := σ.2.1) (e := e); omega) (by omega)
  unfold qRank at c
  rw [(rk_ok hk).1] at c
  exact c
theorem k78_1 {X : smX} {h : smH} {B e k : Nat} {σ : St} (r : RepC h B σ) (he : e < σ.2.1.1.length) (hk : k < (agE σ.2.1 e).1.length) : Ct X 78 [.ref B, .int (nI e), .int (nI k), .int (nI 1)] h B (.int (nI (pD (agE σ.2.1 e).1 (rk (agE σ.2.1 e).1 k)))) σ := by
  have c := k78 (X := X) (f := 1) r he (show k < 2 ^ 31 by have := ag_len (s := σ.2.1) (e := e); omega) (by omega)
  unfold qRank at c
  rw [(rk_ok hk).1] at c
  exact c
theorem k78_n {X : smX} {h : smH} {B e : Nat} {σ : St} (r : RepC h B σ) (he : e < σ.2.1.1.length) : Ct X 78 [.ref B, .int (nI e), .int (nI (agE σ.2.1 e).1.length), .int (nI 0)] h B (.int (-nI 9)) σ := by
  have c := k78 (X := X) (f := 0) r he (show (agE σ.2.1 e).1.length < 2 ^ 31 by have := ag_len (s := σ.2.1) (e := e); omega) (by omega)
  unfold qRank at c
  rw [rk_no (Nat.le_refl _)] at c
  exact c
theorem k73_w {X : smX} {h : smH} {B e n : Nat} {σ : St} (r : RepC h B σ) (he : e < σ.2.1.1.length) (hn : n < 1000) : Ct X 73 [.ref B, .int (nI e), .int (nI n), .int (nI 0)] h B (.int (oI (dW (en σ.2.1 e).1 σ.2.1.2.1 n))) σ := by
  have h6 := r.h6
  have c := m73 (X := X) r (nI e) (nI n) (nI 0)
  unfold qDoubt at c
  rw [vR_t2 h6 he (by omega), if_pos rfl, vN_t hn (by omega), if_pos rfl, nTN (by omega), nTN (by omega), nTN (by omega), if_pos rfl] at c
  exact ⟨h, c, r, Fr.rf⟩
theorem k73_f {X : smX} {h : smH} {B e n : Nat} {σ : St} (r : RepC h B σ) (he : e < σ.2.1.1.length) (hn : n < 1000) : Ct X 73 [.ref B, .int (nI e), .int (nI n), .int (nI 1)] h B (.int (oI (dF (en σ.2.1 e).2 n))) σ := by
  have h6 := r.h6
  have c := m73 (X := X) r (nI e) (nI n) (nI 1)
  unfold qDoubt at c
  rw [vR_t2 h6 he (by omega), if_pos rfl, vN_t hn (by omega), if_pos rfl, nTN (by omega), nTN (by omega), nTN (by omega), if_neg (by decide)] at c
  exact ⟨h, c, r, Fr.rf⟩
theorem k72 {X : smX} {h : smH} {B e f p : Nat} {σ : St} (r : RepC h B σ) (he : e < σ.2.1.1.length) (hf : f < 2) (hp : p < (rowF σ.2.1 e f).length) : Ct X 72 [.ref B, .int (nI e), .int (nI f), .int (nI p)] h B (.int (nI (nA (rowF σ.2.1 e f) p))) σ := by
  have h6 := r.h6
  have hl := (r.row (f := f) he).1
  have c := m72 (X := X) r (nI e) (nI f) (nI p)
  unfold qSign at c
  rw [vR_t2 h6 he hf, if_pos rfl, nTN (by omega), nTN (by omega), vP_t hp (by omega), if_pos rfl, nTN (by omega)] at c
  exact ⟨h, c, r, Fr.rf⟩
theorem k91_a {X : smX} {h : smH} {B : Nat} {σ : St} (r : RepC h B σ) : Ct X 91 [.ref B, .int (-nI 1)] h B (.int (oI (leastD σ.2.1))) σ := by
  have c := m91 (X := X) r (-nI 1)
  unfold qLeast at c
  rw [if_pos rfl] at c
  exact c
theorem k91_n {X : smX} {h : smH} {B e : Nat} {σ : St} (r : RepC h B σ) (he : e < σ.2.1.1.length) (hv : leastD σ.2.1 = none) : Ct X 91 [.ref B, .int (nI e)] h B (.int (-nI 9)) σ := by
  have h6 := r.h6
  have c := m91 (X := X) r (nI e)
  unfold qLeast at c
  rw [if_neg (neg1_ne (show e < 2 ^ 30 by omega)), vN_t he (by omega), if_pos rfl, hv] at c
  exact c
theorem k91_s {X : smX} {h : smH} {B e v : Nat} {σ : St} (r : RepC h B σ) (he : e < σ.2.1.1.length) (hv : leastD σ.2.1 = some v) : Ct X 91 [.ref B, .int (nI e)] h B (.int (nI (lnE σ.2.1 e))) σ := by
  have h6 := r.h6
  have c := m91 (X := X) r (nI e)
  unfold qLeast at c
  rw [if_neg (neg1_ne (show e < 2 ^ 30 by omega)), vN_t he (by omega), if_pos rfl, hv] at c
  simp only at c
  rw [nTN (by omega)] at c
  exact c
theorem k98 {X : smX} {h : smH} {B e : Nat} {σ : St} (r : RepC h B σ) (he : e < σ.2.1.1.length) : Ct X 98 [.ref B, .int (nI e)] h B (.int (oI (sur σ.2.1 e))) σ := by
  have h6 := r.h6
  have c := m98 (X := X) r (nI e)
  unfold qSure at c
  rw [vN_t he (by omega), if_pos rfl, nTN (by omega)] at c
  exact c
theorem k101 {X : smX} {h : smH} {B e : Nat} {σ : St} (r : RepC h B σ) (he : e < σ.2.1.1.length) : Ct X 101 [.ref B, .int (nI e)] h B (.int (if 1 < (agE σ.2.1 e).1.length then oI (bpl (en σ.2.1 e).1 (agE σ.2.1 e).1 (en σ.2.1 e).1.length 0 none 0) else -nI 9)) σ := by
  have h6 := r.h6
  have c := m101 (X := X) r (nI e)
  unfold qLook at c
  rw [vN_t he (by omega), if_pos rfl, nTN (by omega)] at c
  exact c
theorem k79_l {X : smX} {h : smH} {B n : Nat} {σ : St} (r : RepC h B σ) (hn : n < 1000) : Ct X 79 [.ref B, .int (nI n), .int (-nI 1)] h B (.int (nI (spN n).length)) σ := by
  have c := m79 (X := X) r (nI n) (-nI 1)
  unfold qWord at c
  rw [vN_t hn (by omega), if_pos rfl, if_pos rfl, nTN (by omega)] at c
  exact ⟨h, c, r, Fr.rf⟩
theorem k79_k {X : smX} {h : smH} {B n k : Nat} {σ : St} (r : RepC h B σ) (hn : n < 1000) (hk : k < (spN n).length) : Ct X 79 [.ref B, .int (nI n), .int (nI k)] h B (.int (nI (nA (spN n) k))) σ := by
  have hl := spN_len hn
  have c := m79 (X := X) r (nI n) (nI k)
  unfold qWord at c
  rw [vN_t hn (by omega), if_pos rfl, if_neg (neg1_ne (show k < 2 ^ 30 by omega)), if_pos (by rw [nI_toInt (by omega)]; omega), nTN (by omega), nTN (by omega), if_pos hk] at c
  exact ⟨h, c, r, Fr.rf⟩
/-- the law's own: low(v, n) -/
def lo (x : Int32) (n : Nat) : Nat := x.toBitVec.toNat % 2 ^ 31 % n
theorem lo_lt {x : Int32} {n : Nat} (hn : 0 < n) : lo x n < n := Nat.mod_lt _ hn
theorem m108 {X : smX} {h : smH} {n : Nat} (x : Int32) (h0 : 0 < n) (hn : n < 2 ^ 31) : sm_C PP X 108 [.int x, .int (nI n)] h = some (some (.int (nI (lo x n))), h) := by
  rw [c108, b108_0, if_neg (nI_ne0 h0 hn), pk_and x (m := nI 2147483647) 31 (by decide), pk_rem (by omega) h0 hn]
  rfl
theorem k108 {X : smX} {h : smH} {B n : Nat} {σ : St} (r : RepC h B σ) (x : Int32) (h0 : 0 < n) (hn : n < 2 ^ 31) : Ct X 108 [.int x, .int (nI n)] h B (.int (nI (lo x n))) σ := ⟨h, m108 x h0 hn, r, Fr.rf⟩
/-- cell(s, k) -/
theorem m107 {X : smX} {h : smH} {k : Nat} (hX : X.1 ≤ 260) (hk : k < 1000) : ∃ v, sm_C PP X 107 [.retAddr 40, .int (nI k)] h = some (some (.int v), h) := by
  rw [c107, b107_0]
  show ∃ v, sm_al (some (.int, X.1, .inl X.2)) _ = _
  rw [sm_al_s]
  by_cases c : k < X.1
  · refine ⟨X.2 k, ?_⟩
    rw [if_neg (nI_ge c (by omega))]
    show sm_ld (some (.int, X.1, .inl X.2)) .int _ _ = _
    rw [ldO c (by omega), b107_24]
  · refine ⟨((nI 625341585) * (nI k + (nI 631))) + (nI 463), ?_⟩
    rw [if_pos (nI_le (by omega) (by omega)), b107_24]
theorem ior_ge (x : Int32) {c : Nat} (hc : c < 2 ^ 31) : (x ||| nI c).toInt < 0 ∨ (c : Int) ≤ (x ||| nI c).toInt := by
  have e1 : (x ||| nI c).toInt = (x.toBitVec ||| (nI c).toBitVec).toInt := rfl
  have e2 : (x.toBitVec ||| (nI c).toBitVec).toNat = x.toBitVec.toNat ||| c := by
    rw [BitVec.toNat_or, pk_tn (by omega)]
  have e3 : c ≤ x.toBitVec.toNat ||| c := Nat.right_le_or
  have e4 := (x.toBitVec ||| (nI c).toBitVec).isLt
  rw [e1, BitVec.toInt_eq_toNat_cond]
  split <;> omega
