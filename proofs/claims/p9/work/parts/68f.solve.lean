/-! ===== the desk's solve, all of it ===== -/
/-- solve answers z in s, t is left -/
def dl_SO (b : Nat → Int) (n : Int) (l : List vl_I) (s : sx_S) (z : Int) (t : sx_S) : Prop := True → cx_I t ∧ cx_F [(0, 0), (11, 17), (29, 65)] s t ∧ (t.1 0 1 = s.1 0 1 ∧ t.1 0 2 = s.1 0 2) ∧ (s.1 0 2 = 0 → z = -1 ∧ t.1 0 3 = s.1 0 3) ∧ (s.1 0 2 ≠ 0 → s.1 0 3 ≠ -1 → z = s.1 0 3 ∧ t.1 0 3 = s.1 0 3) ∧ (s.1 0 2 ≠ 0 → s.1 0 3 = -1 → t.1 0 3 = z ∧ ((z = 0 ∧ vl_sat (px_SN b n) l) ∨ (z = 1 ∧ ¬ vl_sat (px_SN b n) l)))
