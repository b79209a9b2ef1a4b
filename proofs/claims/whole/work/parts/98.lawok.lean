theorem law_ok : LawOk := by
  sorry
