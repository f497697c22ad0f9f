def Rel : Sg → Sg → Prop := fun _ _ => True
theorem rel_all : AllAns Rel := sorry
theorem rel_init : Rel gc0 gm0 := sorry
