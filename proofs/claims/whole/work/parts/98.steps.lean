def Rel (M : Mem) : Prop := M = M
theorem rel_init : Rel MINIT := rfl
theorem steps_all : StepAll Rel := by
  sorry
