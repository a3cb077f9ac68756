/-- OPEN: text's case, still to be proved (see NOTES.md) -/
theorem textlaw (E : mE) (l : Launch) : TEXTLAW E l := by
  sorry
