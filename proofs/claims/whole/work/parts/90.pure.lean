/-! what is left: a relation between the worlds of class and reference that every call keeps -/
theorem pure_steps : ∃ R : jWd → Prop, jSteps R ∧ R jwF := sorry
