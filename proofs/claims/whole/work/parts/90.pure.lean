/-! what is left: a relation between the worlds of class and reference that every call keeps -/
theorem pure_fsteps : ∃ R : jWd → Prop, fSteps R ∧ R jwF := sorry
theorem pure_steps : ∃ R : jWd → Prop, jSteps R ∧ R jwF := pure_fsteps.imp (fun _ h => ⟨pure_of h.1, h.2⟩)
