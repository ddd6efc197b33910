theorem pure_rel : ∃ Rel : VV → VV → Prop, Rel V0C V0M ∧ Ops Rel := sorry
