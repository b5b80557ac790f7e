/-! ===== the pure claim ===== -/
theorem Bd_every : ∀ s B, VC s B → Bd s B := by
  refine Bd_all (fun s hs => ?_)
  have cs : s = 0 ∨ s = 1 ∨ s = 2 ∨ s = 3 ∨ s = 4 ∨ s = 5 ∨ s = 6 ∨ s = 7 := by omega
  rcases cs with z | z | z | z | z | z | z | z <;> subst z
  · exact bd0_t
  · exact bd1_t
  · exact bd2_t
  · exact bd3_t
  · exact bd4_t
  · exact bd5_t
  · exact bd6_t
  · exact bd7_t
theorem pure_claim (L : Nat) (xs : Nat → Int32) (hL : L ≤ 2560) : xt_law L xs = some 1 := pure_of Bd_every L xs hL
