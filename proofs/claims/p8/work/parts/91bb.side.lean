section
variable {SN : Int → Int → Prop} {C M : List (Int × qx_T)} {TV : Int → qx_T → Prop} {AR : Nat → List Int}
end
/-- o is what is written of the side si of the equation k -/
def wy_Os (b : Nat → Int) (n : Int) (l : List vl_I) (k si : Int) (o : List Int) : Prop := True → ∃ (TV : Int → qx_T → Prop) (AR : Nat → List Int) (tl : vw_L) (S : vx_S) (th : Int → rf_N) (ht : Int → List rf_T) (nm : Int → List Int) (p : (List (Int × qx_T) × List (Int × qx_T)) × (px_N × px_N)) (W : rf_N) (x : qx_T), wy_Z b n l TV AR tl S th ht nm ∧ (vl_eq l [] [])[k.toNat]? = some p ∧ (vl_tm (px_SN b n) p.1.1 p.1.2 TV AR (if si = 0 then p.2.1 else p.2.2)).1 W [] [] x ∧ o = ((we_W (wk_E nm ht) (vx_val th AR W (dv_lk []) 0)).1 0 (wz_al th (vl_mf l []).length, [])).2
