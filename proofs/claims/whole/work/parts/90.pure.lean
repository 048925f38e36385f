theorem law_ok : Law_ok := sorry
