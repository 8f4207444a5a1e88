theorem ok_25 : Ok_25 II := by sorry
