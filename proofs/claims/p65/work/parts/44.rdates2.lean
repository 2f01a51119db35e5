/-! the class's half of the part 44 of the proof of whole (wip/p65/mkhalf.py) -/
/-- the reference's dates are there -/
def RD (M : xM) (b : Nat → Int) : Prop := gi M 27 0 13 = zi (etB b) ∧ ∀ t, t < nT b → gi M 33 0 t = zi (esB b t) ∧ gi M 34 0 t = zi (lsB b t)
