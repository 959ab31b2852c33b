/-! plane maps all of whose faces have four sides have two sorts of vertices -/
theorem fit_two {m : PMp} (hm : MV m) (h4 : fr4 m = true) (hE : 0 < pE m) {w x : Nat} (hw : w < pVn m) (hx : x < pN m) : evB m w x ≠ evB m w (ox x) := by
  sorry
