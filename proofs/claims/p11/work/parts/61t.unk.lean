/-! ===== the walk meets an unknown ===== -/
def dv_RT (root : rf_N × (Int → Int)) (S : vx_S) (l : List (rf_N × (Int → Int))) : Prop := ∀ (j : Nat) (m : Int) (F : rf_N), root.1 = rf_n j 3 m F .leaf → l = [] ∨ (l = [root] ∧ S.2.2.2.1 m = none)
