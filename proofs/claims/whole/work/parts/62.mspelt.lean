/-! spell of the reference -/
def spA (n : Nat) : List Nat := if n < 100 then [] else (if n % 100 = 0 then sy (sy [] (n / 100)) 28 else sy (sy (sy [] (n / 100)) 28) 29)
def spC (n : Nat) : List Nat := if n < 100 ∨ 0 < n % 100 then sy (spA n) (if n % 100 < 20 then n % 100 else 18 + n % 100 / 10) else spA n
def spM (n : Nat) : List Nat := if 20 ≤ n % 100 ∧ 0 < n % 100 % 10 then sy (spC n) (n % 100 % 10) else spC n
theorem spM_ok : (List.range 1000).all (fun n => decide (spM n = spN n) && (decide ((spC n).length ≤ 31) && (decide ((spA n).length ≤ 31) && decide ((sy (sy [] (n / 100)) 28).length ≤ 31 ∨ n < 100)))) = true := by decide +kernel
theorem wd_le : (List.range 30).all (fun w => decide ((wd w).length ≤ 10)) = true := by decide +kernel
