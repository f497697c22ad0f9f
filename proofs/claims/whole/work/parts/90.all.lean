theorem rel_all : AllAns Rel := sorry
