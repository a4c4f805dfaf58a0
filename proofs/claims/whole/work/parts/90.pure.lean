theorem pureLaw : PureLaw := sorry
