/-! ===== what is written of a value, on a paper of any kind ===== -/
abbrev we_A (Ω : Type) : Type := List (Int × List Int) × Ω
def we_bs {Ω : Type} (pb : Int → Ω → Ω) (l : List Int) (w : we_A Ω) : we_A Ω := (w.1, l.foldl (fun o c => pb c o) w.2)
/-- one term, by what is written of its parts -/
def we_o {Ω : Type} (pb : Int → Ω → Ω) (dg nm : Int → List Int) (hf : Int → List Int → Int → we_A Ω → we_A Ω) (q : Int × Int) (F : rf_N) (f : (Int → we_A Ω → we_A Ω) × (Int → we_A Ω → we_A Ω)) (dp : Int) (w : we_A Ω) : we_A Ω := if q.1 = 0 then f.1 (dp + 1) (we_bs pb (92 :: 120 :: (dg dp ++ [46])) w) else if q.1 = 1 ∧ q.2 < 0 then hf q.2 (dz_hs F) dp w else f.2 dp (we_bs pb (if q.1 = 1 then nm q.2 else 120 :: dg q.2) w)
/-- an ARG -/
def we_g {Ω : Type} (pb : Int → Ω → Ω) (q : Int × Int) (F : rf_N) (o : Int → we_A Ω → we_A Ω) (dp : Int) (w : we_A Ω) : we_A Ω := if q.1 = 0 ∨ rf_len F ≠ 0 then we_bs pb [41] (o dp (we_bs pb [40] w)) else o dp w
/-- one term; a row of ARGs -/
def we_w {Ω : Type} (pb : Int → Ω → Ω) (dg nm : Int → List Int) (hf : Int → List Int → Int → we_A Ω → we_A Ω) : rf_N → (Int → we_A Ω → we_A Ω) × (Int → we_A Ω → we_A Ω)
  | .leaf => (fun _ w => w, fun _ w => w)
  | .inner _ q _ F X => (we_o pb dg nm hf q F (we_w pb dg nm hf F), fun dp w => (we_w pb dg nm hf X).2 dp (we_g pb q F (we_o pb dg nm hf q F (we_w pb dg nm hf F)) dp (we_bs pb [32] w)))
theorem wz_n10 : ¬ ((1 : Int) = 0) := by decide
theorem wz_n20 : ¬ ((2 : Int) = 0) := by decide
theorem wz_n21 : ¬ ((2 : Int) = 1) := by decide
section
variable {Ω : Type} {pb : Int → Ω → Ω} {dg nm : Int → List Int} {hf : Int → List Int → Int → we_A Ω → we_A Ω}
theorem we_w_1 (j : Nat) (q : Int × Int) (u : Unit) (F X : rf_N) (dp : Int) (w : we_A Ω) : (we_w pb dg nm hf (.inner j q u F X)).1 dp w = we_o pb dg nm hf q F (we_w pb dg nm hf F) dp w := rfl
theorem we_w_2 (j : Nat) (q : Int × Int) (u : Unit) (F X : rf_N) (dp : Int) (w : we_A Ω) : (we_w pb dg nm hf (.inner j q u F X)).2 dp w = (we_w pb dg nm hf X).2 dp (we_g pb q F (we_o pb dg nm hf q F (we_w pb dg nm hf F)) dp (we_bs pb [32] w)) := rfl
theorem we_w_0 (dp : Int) (w : we_A Ω) : (we_w pb dg nm hf .leaf).2 dp w = w := rfl
/-- a term as an ARG: in brackets or not -/
def we_gv (pb : Int → Ω → Ω) (v : rf_N) (o : Int → we_A Ω → we_A Ω) (dp : Int) (w : we_A Ω) : we_A Ω := we_g pb (wz_q v) (wz_F v) o dp w
theorem we_w_sb {a X : rf_N} (ha : vx_on a) (dp : Int) (w : we_A Ω) : (we_w pb dg nm hf (vx_sb a X)).1 dp w = (we_w pb dg nm hf a).1 dp w ∧ (we_w pb dg nm hf (vx_sb a X)).2 dp w = (we_w pb dg nm hf X).2 dp (we_gv pb a (we_w pb dg nm hf a).1 dp (we_bs pb [32] w)) := by
  obtain ⟨k, h, F, rfl⟩ := ha
  exact ⟨rfl, rfl⟩
theorem we_lam (j : Nat) (r : Int) (F X : rf_N) (dp : Int) (w : we_A Ω) : (we_w pb dg nm hf (rf_n j 0 r F X)).1 dp w = (we_w pb dg nm hf F).1 (dp + 1) (we_bs pb (92 :: 120 :: (dg dp ++ [46])) w) := by
  show we_o pb dg nm hf (0, r) F _ dp w = _
  unfold we_o
  rw [if_pos rfl]
theorem we_hol (j : Nat) (h : Int) (F X : rf_N) (hh : h < 0) (dp : Int) (w : we_A Ω) : (we_w pb dg nm hf (rf_n j 1 h F X)).1 dp w = hf h (dz_hs F) dp w := by
  show we_o pb dg nm hf (1, h) F _ dp w = _
  unfold we_o
  rw [if_neg wz_n10, if_pos ⟨rfl, hh⟩]
theorem we_con (j : Nat) (h : Int) (F X : rf_N) (hh : 0 ≤ h) (dp : Int) (w : we_A Ω) : (we_w pb dg nm hf (rf_n j 1 h F X)).1 dp w = (we_w pb dg nm hf F).2 dp (we_bs pb (nm h) w) := by
  show we_o pb dg nm hf (1, h) F _ dp w = _
  unfold we_o
  rw [if_neg wz_n10, if_neg (fun c => by have := c.2; dsimp only at this; omega), if_pos rfl]
theorem we_var (j : Nat) (h : Int) (F X : rf_N) (dp : Int) (w : we_A Ω) : (we_w pb dg nm hf (rf_n j 2 h F X)).1 dp w = (we_w pb dg nm hf F).2 dp (we_bs pb (120 :: dg h) w) := by
  show we_o pb dg nm hf (2, h) F _ dp w = _
  unfold we_o
  rw [if_neg wz_n20, if_neg (fun c => absurd c.1 wz_n21), if_neg wz_n21]
theorem we_bs_app (l l' : List Int) (w : we_A Ω) : we_bs pb (l ++ l') w = we_bs pb l' (we_bs pb l w) := by
  unfold we_bs
  rw [List.foldl_append]
theorem we_bs_1 (l : List Int) (w : we_A Ω) : (we_bs pb l w).1 = w.1 := rfl
/-- which open unknowns are met -/
theorem we_acc (h1 : ∀ h xs dp w, (hf h xs dp w).1 = wz_ad w.1 h xs) {n : Int} {ar : Int → Int} : ∀ {v : rf_N}, wz_ok n ar v → ∀ (dp : Int) (w : we_A Ω), ((we_w pb dg nm hf v).1 dp w).1 = wz_go (vx_1 v) w.1 ∧ ((we_w pb dg nm hf v).2 dp w).1 = wz_go v w.1
  | .leaf, _, _, _ => ⟨rfl, rfl⟩
  | .inner j q u F X, ho, dp, w => by
    obtain ⟨o1, o2, o3⟩ := wz_ok_in.mp ho
    have one : ∀ dp w, (we_o pb dg nm hf q F (we_w pb dg nm hf F) dp w).1 = (if q.1 = 1 ∧ q.2 < 0 then wz_ad w.1 q.2 (dz_hs F) else wz_go F w.1) := fun dp w => by
      unfold we_o
      by_cases c0 : q.1 = 0
      · rw [if_neg (by omega)] at o1
        have hF := (we_acc h1 o1 (dp + 1) (we_bs pb (92 :: 120 :: (dg dp ++ [46])) w)).1
        obtain ⟨k, h, G, hG⟩ := o3 c0
        rw [if_pos c0, if_neg (by omega), hF, hG]
        rfl
      · rw [if_neg c0]
        by_cases c1 : q.1 = 1 ∧ q.2 < 0
        · rw [if_pos c1, if_pos c1, h1]
        · rw [if_neg c1] at o1
          rw [if_neg c1, if_neg c1, (we_acc h1 o1 dp _).2, we_bs_1]
    constructor
    · rw [we_w_1, one]
      rfl
    · rw [we_w_2, (we_acc h1 o2 dp _).2]
      unfold we_g
      by_cases c : q.1 = 0 ∨ rf_len F ≠ 0
      · rw [if_pos c, we_bs_1, one, we_bs_1, we_bs_1]
        rfl
      · rw [if_neg c, one, we_bs_1]
        rfl
/-- a paper on which there is no room stays as it is -/
theorem we_sat {P : Ω → Prop} (hp : ∀ c o, P o → P (pb c o)) (hh : ∀ h xs dp w, P w.2 → P (hf h xs dp w).2) : ∀ {v : rf_N} (dp : Int) (w : we_A Ω), P w.2 → P ((we_w pb dg nm hf v).1 dp w).2 ∧ P ((we_w pb dg nm hf v).2 dp w).2
  | .leaf, _, _, h => ⟨h, h⟩
  | .inner j q u F X, dp, w, h => by
    have hb : ∀ (l : List Int) (w : we_A Ω), P w.2 → P (we_bs pb l w).2 := fun l => by
      induction l with
      | nil => exact fun w h => h
      | cons c l ih => exact fun w h => ih (w.1, pb c w.2) (hp c w.2 h)
    have one : ∀ dp w, P w.2 → P (we_o pb dg nm hf q F (we_w pb dg nm hf F) dp w).2 := fun dp w h => by
      unfold we_o
      by_cases c0 : q.1 = 0
      · rw [if_pos c0]
        exact (we_sat hp hh (v := F) _ _ (hb _ _ h)).1
      · rw [if_neg c0]
        by_cases c1 : q.1 = 1 ∧ q.2 < 0
        · rw [if_pos c1]
          exact hh _ _ _ _ h
        · rw [if_neg c1]
          exact (we_sat hp hh (v := F) _ _ (hb _ _ h)).2
    refine ⟨by rw [we_w_1]; exact one _ _ h, ?_⟩
    rw [we_w_2]
    refine (we_sat hp hh (v := X) _ _ ?_).2
    unfold we_g
    by_cases c : q.1 = 0 ∨ rf_len F ≠ 0
    · rw [if_pos c]
      exact hb _ _ (one _ _ (hb _ _ (hb _ _ h)))
    · rw [if_neg c]
      exact one _ _ (hb _ _ h)
/-- without open unknowns in it: the same whatever is written of them -/
theorem we_noh {hf' : Int → List Int → Int → we_A Ω → we_A Ω} : ∀ {v : rf_N}, (∀ x, ¬ wz_oc x v) → we_w pb dg nm hf v = we_w pb dg nm hf' v
  | .leaf, _ => rfl
  | .inner j q u F X, h => by
    have c : ¬ (q.1 = 1 ∧ q.2 < 0) := fun c => h q.2 (wz_oc_in.mpr (Or.inl (by rw [if_pos c])))
    have hF := we_noh (hf' := hf') (v := F) (fun x hx => h x (wz_oc_in.mpr (Or.inl (by rw [if_neg c]; exact hx))))
    have hX := we_noh (hf' := hf') (v := X) (fun x hx => h x (wz_oc_in.mpr (Or.inr hx)))
    have ho : we_o pb dg nm hf q F (we_w pb dg nm hf F) = we_o pb dg nm hf' q F (we_w pb dg nm hf' F) := by
      funext dp w
      unfold we_o
      rw [if_neg c, if_neg c, hF]
    show (we_o pb dg nm hf q F (we_w pb dg nm hf F), _) = (we_o pb dg nm hf' q F (we_w pb dg nm hf' F), _)
    rw [ho, hX]
end
/-- the places of a row, by what stands there: the smallest first -/
def we_od (row : List Int) (p : Nat) : Nat := ((List.range row.length).find? (fun k => decide (rf_rnk (fun i => row.getD i (-1)) row.length k = p))).getD 0
/-- the row with which an open unknown was first met -/
def we_rw (a : List (Int × List Int)) (h : Int) : List Int := ((a.find? (fun p => decide (p.1 = h))).map Prod.snd).getD []
/-- an open unknown is written: its number, its ARGs in their order, long -/
def we_hf {Ω : Type} (pb : Int → Ω → Ω) (dg nm : Int → List Int) (ht : Int → List rf_T) (h : Int) (xs : List Int) (dp : Int) (w : we_A Ω) : we_A Ω := (we_w pb dg nm (fun _ _ _ w => w) (vq_rl ((List.range xs.length).map (fun p => (ht h).getD (we_od (we_rw (wz_ad w.1 h xs) h) p) .leaf)) ((List.range xs.length).map (fun p => xs.getD (we_od (we_rw (wz_ad w.1 h xs) h) p) (-1))) dp)).2 dp (we_bs pb (104 :: dg (vx_ii ((wz_ad w.1 h xs).map Prod.fst) h)) (wz_ad w.1 h xs, w.2))
section
variable {Ω : Type} {pb : Int → Ω → Ω} {dg nm : Int → List Int}
theorem we_fst0 : ∀ {v : rf_N} (dp : Int) (w : we_A Ω), ((we_w pb dg nm (fun _ _ _ w => w) v).1 dp w).1 = w.1 ∧ ((we_w pb dg nm (fun _ _ _ w => w) v).2 dp w).1 = w.1
  | .leaf, _, _ => ⟨rfl, rfl⟩
  | .inner j q u F X, dp, w => by
    have one : ∀ dp w, (we_o pb dg nm (fun _ _ _ w => w) q F (we_w pb dg nm (fun _ _ _ w => w) F) dp w).1 = w.1 := fun dp w => by
      unfold we_o
      by_cases c0 : q.1 = 0
      · rw [if_pos c0, (we_fst0 (v := F) _ _).1, we_bs_1]
      · rw [if_neg c0]
        by_cases c1 : q.1 = 1 ∧ q.2 < 0
        · rw [if_pos c1]
        · rw [if_neg c1, (we_fst0 (v := F) _ _).2, we_bs_1]
    refine ⟨by rw [we_w_1, one], ?_⟩
    rw [we_w_2, (we_fst0 (v := X) _ _).2]
    unfold we_g
    by_cases c : q.1 = 0 ∨ rf_len F ≠ 0
    · rw [if_pos c, we_bs_1, one, we_bs_1, we_bs_1]
    · rw [if_neg c, one, we_bs_1]
theorem we_hf_1 (ht : Int → List rf_T) (h : Int) (xs : List Int) (dp : Int) (w : we_A Ω) : (we_hf pb dg nm ht h xs dp w).1 = wz_ad w.1 h xs := by
  unfold we_hf
  rw [(we_fst0 _ _).2, we_bs_1]
theorem we_pb_l {P : Ω → Prop} (hp : ∀ c o, P o → P (pb c o)) : ∀ (l : List Int) (o : Ω), P o → P (l.foldl (fun o c => pb c o) o)
  | [], _, h => h
  | c :: l, o, h => we_pb_l hp l (pb c o) (hp c o h)
theorem we_hf_sat {P : Ω → Prop} (hp : ∀ c o, P o → P (pb c o)) (ht : Int → List rf_T) (h : Int) (xs : List Int) (dp : Int) (w : we_A Ω) (hw : P w.2) : P (we_hf pb dg nm ht h xs dp w).2 := by
  unfold we_hf
  exact (we_sat hp (fun _ _ _ _ h => h) _ _ (we_pb_l hp _ _ hw)).2
end
/-- long forms hold no open unknown -/
theorem wz_lm_oc {x : Int} {T : rf_N} (h : ¬ wz_oc x T) : ∀ n, ¬ wz_oc x (vq_lm n T)
  | 0 => h
  | n + 1 => fun c => by
    have c' : wz_oc x (.inner 0 (0, 0) () (vq_lm n T) .leaf) := c
    rw [wz_oc_in, if_neg (by decide)] at c'
    rcases c' with c' | c'
    · exact wz_lm_oc h n c'
    · exact c'
theorem wz_sb_oc {x : Int} {a X : rf_N} (ha : vx_on a) : wz_oc x (vx_sb a X) ↔ wz_oc x a ∨ wz_oc x X := by
  obtain ⟨k, h, F, rfl⟩ := ha
  show wz_oc x (.inner 0 (k, h) () F X) ↔ wz_oc x (.inner 0 (k, h) () F .leaf) ∨ wz_oc x X
  rw [wz_oc_in, wz_oc_in]
  exact ⟨fun z => z.imp Or.inl id, fun z => z.elim (fun z => z.elim Or.inl (fun z => z.elim)) Or.inr⟩
theorem wz_row_oc {x : Int} : ∀ (A : rf_T) (i M : Int), ¬ wz_oc x (vq_row A i M)
  | .leaf, _, _ => fun h => h
  | .inner _ _ _ A B, i, M => fun h => by
    have h' : wz_oc x (vx_sb (vq_lm (rf_args A).length (rf_n 0 2 i (vq_row A M (M + ((rf_args A).length : Int))) .leaf)) (vq_row B (i + 1) M)) := h
    rw [wz_sb_oc (vq_lm_on ⟨2, i, _, rfl⟩ _)] at h'
    rcases h' with h' | h'
    · refine wz_lm_oc (fun c => ?_) _ h'
      have c' : wz_oc x (.inner 0 (2, i) () (vq_row A M (M + ((rf_args A).length : Int))) .leaf) := c
      rw [wz_oc_in, if_neg (fun q => absurd q.1 wz_n21)] at c'
      rcases c' with c' | c'
      · exact wz_row_oc A _ _ c'
      · exact c'
    · exact wz_row_oc B _ _ h'
theorem wz_cv_oc {x : Int} (A : rf_T) (n L : Int) : ¬ wz_oc x (vq_cv A n L) := wz_lm_oc (fun c => by
  have c' : wz_oc x (.inner 0 (2, n) () (vq_row A L (L + ((rf_args A).length : Int))) .leaf) := c
  rw [wz_oc_in, if_neg (fun q => absurd q.1 wz_n21)] at c'
  rcases c' with c' | c'
  · exact wz_row_oc A _ _ c'
  · exact c') _
