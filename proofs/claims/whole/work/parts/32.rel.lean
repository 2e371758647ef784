/-- the two states tell the same -/
def Rel (v : kV) (ar : kR) (mv : kV) (mar : kR) : Prop := v 0 = mv 1 ∧ ar 0 0 = mar 0 0
