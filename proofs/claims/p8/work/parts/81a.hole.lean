/-! ===== open unknowns as heads: values put in for them; two solutions each of which comes of the other ===== -/
/-- values put in for the open unknowns (heads below 0) -/
def wz_in (σ : Int → rf_N) : rf_N → Int → rf_N
  | .leaf, _ => .leaf
  | .inner _ q _ F X, L => if q.1 = 0 then rf_n 0 0 0 (wz_in σ F (L + 1)) (wz_in σ X L) else if q.1 = 1 ∧ q.2 < 0 then vx_sb (vx_re (vx_ix (dz_hs F) L) (σ (-1 - q.2))) (wz_in σ X L) else rf_n 0 q.1 q.2 (wz_in σ F L) (wz_in σ X L)
theorem wz_in_in (σ : Int → rf_N) (j : Nat) (q : Int × Int) (u : Unit) (F X : rf_N) (L : Int) : wz_in σ (.inner j q u F X) L = if q.1 = 0 then rf_n 0 0 0 (wz_in σ F (L + 1)) (wz_in σ X L) else if q.1 = 1 ∧ q.2 < 0 then vx_sb (vx_re (vx_ix (dz_hs F) L) (σ (-1 - q.2))) (wz_in σ X L) else rf_n 0 q.1 q.2 (wz_in σ F L) (wz_in σ X L) := rfl
/-- a row of variables -/
def wz_vr : rf_N → Prop
  | .leaf => True
  | .inner _ q _ F X => (q.1 = 2 ∧ F = .leaf) ∧ wz_vr X
/-- calls of open unknowns below n stand before variables alone, as many as they must -/
def wz_ok (n : Int) (ar : Int → Int) : rf_N → Prop
  | .leaf => True
  | .inner _ q _ F X => (if q.1 = 1 ∧ q.2 < 0 then wz_vr F ∧ ((dz_hs F).length : Int) = ar (-1 - q.2) ∧ -1 - q.2 < n else wz_ok n ar F) ∧ wz_ok n ar X ∧ (q.1 = 0 → vx_on F)
/-- no open unknown stands in it as a head; a \ has one part -/
def wz_nn : rf_N → Prop
  | .leaf => True
  | .inner _ q _ F X => (q.1 = 1 → 0 ≤ q.2) ∧ (q.1 ≠ 3 → wz_nn F) ∧ wz_nn X ∧ (q.1 = 0 → vx_sg F)
theorem wz_re_leaf {ρ : Int → Int} : ∀ {F : rf_N}, vx_re ρ F = .leaf ↔ F = .leaf
  | .leaf => ⟨fun _ => rfl, fun _ => rfl⟩
  | .inner _ _ _ _ _ => ⟨fun h => (by cases h), fun h => (by cases h)⟩
theorem wz_vr_re {ρ : Int → Int} : ∀ {F : rf_N}, wz_vr (vx_re ρ F) ↔ wz_vr F
  | .leaf => ⟨fun h => h, fun h => h⟩
  | .inner j q u F X => by
    have hX := wz_vr_re (ρ := ρ) (F := X)
    constructor
    · rintro ⟨⟨h1, h2⟩, h3⟩
      exact ⟨⟨h1, wz_re_leaf.mp h2⟩, hX.mp h3⟩
    · rintro ⟨⟨h1, h2⟩, h3⟩
      exact ⟨⟨h1, wz_re_leaf.mpr h2⟩, hX.mpr h3⟩
theorem wz_hs_re (ρ : Int → Int) : ∀ {F : rf_N}, wz_vr F → dz_hs (vx_re ρ F) = (dz_hs F).map ρ
  | .leaf, _ => rfl
  | .inner j q u F X, ⟨⟨h1, h2⟩, h3⟩ => by
    have e := wz_hs_re ρ h3
    show (if q.1 = 2 then ρ q.2 else q.2) :: dz_hs (vx_re ρ X) = ρ q.2 :: (dz_hs X).map ρ
    rw [if_pos h1, e]
theorem wz_ok_in {n : Int} {ar : Int → Int} {j : Nat} {q : Int × Int} {u : Unit} {F X : rf_N} : wz_ok n ar (.inner j q u F X) ↔ (if q.1 = 1 ∧ q.2 < 0 then wz_vr F ∧ ((dz_hs F).length : Int) = ar (-1 - q.2) ∧ -1 - q.2 < n else wz_ok n ar F) ∧ wz_ok n ar X ∧ (q.1 = 0 → vx_on F) := Iff.rfl
theorem wz_ok_re {n : Int} {ar : Int → Int} (ρ : Int → Int) : ∀ {A : rf_N}, wz_ok n ar A → wz_ok n ar (vx_re ρ A)
  | .leaf, _ => trivial
  | .inner j q u F X, h => by
    obtain ⟨h1, h2, h3⟩ := wz_ok_in.mp h
    rw [vx_re_in, wz_ok_in]
    dsimp only
    refine ⟨?_, wz_ok_re ρ h2, fun z => vx_re_on (h3 z)⟩
    by_cases c : q.1 = 1 ∧ q.2 < 0
    · have e : (if q.1 = 2 then ρ q.2 else q.2) = q.2 := if_neg (by omega)
      rw [e, if_pos c]
      rw [if_pos c] at h1
      exact ⟨wz_vr_re.mpr h1.1, by rw [wz_hs_re ρ h1.1, List.length_map]; exact h1.2.1, h1.2.2⟩
    · rw [if_neg c] at h1
      have e : ¬ (q.1 = 1 ∧ (if q.1 = 2 then ρ q.2 else q.2) < 0) := fun d => by
        obtain ⟨d1, d2⟩ := d
        rw [if_neg (by omega)] at d2
        exact c ⟨d1, d2⟩
      rw [if_neg e]
      exact wz_ok_re ρ h1
theorem wz_in_sb {σ : Int → rf_N} (hσ : ∀ m, vx_on (σ m)) {X a : rf_N} {L : Int} (ha : vx_on a) : wz_in σ (vx_sb a X) L = vx_sb (wz_in σ a L) (wz_in σ X L) := by
  obtain ⟨k, h, F, rfl⟩ := ha
  show wz_in σ (.inner 0 (k, h) () F X) L = vx_sb (wz_in σ (.inner 0 (k, h) () F .leaf) L) (wz_in σ X L)
  rw [wz_in_in, wz_in_in]
  dsimp only
  by_cases h0 : k = 0
  · rw [if_pos h0, if_pos h0]
    rfl
  · rw [if_neg h0, if_neg h0]
    by_cases h1 : k = 1 ∧ h < 0
    · rw [if_pos h1, if_pos h1]
      have e : wz_in σ .leaf L = .leaf := rfl
      rw [e, vx_sb_leaf (vx_re_on (hσ _))]
    · rw [if_neg h1, if_neg h1]
      rfl
theorem wz_in_re {σ : Int → rf_N} (hg : vx_gd σ) {n : Int} {ar : Int → Int} {ρ : Int → Int} : ∀ {A : rf_N} {L L' : Int}, wz_ok n ar A → (∀ i : Int, 0 ≤ i → ρ (L + i) = L' + i) → wz_in σ (vx_re ρ A) L' = vx_re ρ (wz_in σ A L)
  | .leaf, _, _, _, _ => rfl
  | .inner j q u F X, L, L', h, hL => by
    obtain ⟨h1, h2, _⟩ := wz_ok_in.mp h
    have hX := wz_in_re hg (n := n) (ar := ar) (ρ := ρ) (A := X) h2 hL
    rw [vx_re_in, wz_in_in, wz_in_in]
    dsimp only
    by_cases h0 : q.1 = 0
    · rw [if_pos h0, if_pos h0]
      rw [if_neg (by omega)] at h1
      have hF := wz_in_re hg (n := n) (ar := ar) (ρ := ρ) (A := F) (L := L + 1) (L' := L' + 1) h1 (fun i hi => by
        have := hL (1 + i) (by omega)
        rw [show L + 1 + i = L + (1 + i) by omega, this]
        omega)
      rw [hF, hX]
      rfl
    · rw [if_neg h0, if_neg h0]
      by_cases hh : q.1 = 1 ∧ q.2 < 0
      · rw [if_pos hh] at h1
        have e : (if q.1 = 2 then ρ q.2 else q.2) = q.2 := if_neg (by omega)
        rw [e, if_pos hh, if_pos hh, vx_re_sb, vx_re_re, hX, wz_hs_re ρ h1.1]
        have : vx_re (fun v => ρ (vx_ix (dz_hs F) L v)) (σ (-1 - q.2)) = vx_re (vx_ix ((dz_hs F).map ρ) L') (σ (-1 - q.2)) := vx_re_eq.mpr (fun v hv => vx_ix_re hL ((hg _).2 v hv))
        rw [this]
      · have e : ¬ (q.1 = 1 ∧ (if q.1 = 2 then ρ q.2 else q.2) < 0) := fun d => by
          obtain ⟨d1, d2⟩ := d
          rw [if_neg (by omega)] at d2
          exact hh ⟨d1, d2⟩
        rw [if_neg hh] at h1
        have hF := wz_in_re hg (n := n) (ar := ar) (ρ := ρ) (A := F) h1 hL
        rw [if_neg e, if_neg hh, hF, hX]
        rfl
theorem wz_ok_F {ar : Int → Int} {AR : Nat → List Int} {j : Nat} {q : Int × Int} {u : Unit} {F X : rf_N} (h : vx_ok ar AR (.inner j q u F X)) (h3 : q.1 ≠ 3) : vx_ok ar AR F := by
  rcases h.1 with ⟨_, o⟩ | ⟨o, _⟩
  · exact o
  · exact absurd o h3
/-- putting in and taking values: one after the other -/
theorem wz_in_val {σ th th' : Int → rf_N} {ar : Int → Int} {n : Int} {ar0 : Int → Int} {AR : Nat → List Int} (hg : vx_gd σ) (h' : ∀ m, vx_on (th' m)) : ∀ {A : rf_N} {e : Int → Int} {L : Int}, wz_nn A → vx_ok ar AR A → (∀ m, vx_mt m A → wz_ok n ar0 (th' m) ∧ th m = wz_in σ (th' m) (ar m)) → wz_in σ (vx_val th' AR A e L) L = vx_val th AR A e L
  | .leaf, _, _, _, _, _ => rfl
  | .inner j q u F X, e, L, ⟨n1, n2, n3, n4⟩, o, hm => by
    have hX := wz_in_val hg h' (e := e) (L := L) n3 o.2 (fun m h => hm m (Or.inr (Or.inr h)))
    rw [vx_val_in, vx_val_in]
    by_cases h0 : q.1 = 0
    · have hF := wz_in_val hg h' (e := vx_up e q.2 L) (L := L + 1) (n2 (by omega)) (wz_ok_F o (by omega)) (fun m h => hm m (Or.inr (Or.inl ⟨by omega, h⟩)))
      rw [if_pos h0, if_pos h0, wz_in_in]
      dsimp only
      rw [if_pos rfl, hF, hX]
    · rw [if_neg h0, if_neg h0]
      by_cases h3 : q.1 = 3
      · obtain ⟨k1, k2⟩ := hm q.2 (Or.inl ⟨h3, rfl⟩)
        have hl : ((AR j).length : Int) = ar q.2 := by
          rcases o.1 with ⟨z, _⟩ | ⟨_, z⟩
          · omega
          · exact z
        rw [if_pos h3, if_pos h3, wz_in_sb (fun m => (hg m).1) (vx_re_on (h' _)), hX, wz_in_re hg (n := n) (ar := ar0) (ρ := vx_ix ((AR j).map e) L) (L := ar q.2) k1 (fun i hi => by
          have := vx_ix_hi (xs := (AR j).map e) (L := L) hi
          rw [List.length_map, hl] at this
          exact this), ← k2]
      · have hF := wz_in_val hg h' (e := e) (L := L) (n2 h3) (wz_ok_F o h3) (fun m h => hm m (Or.inr (Or.inl ⟨h3, h⟩)))
        rw [if_neg h3, if_neg h3, wz_in_in]
        dsimp only
        rw [if_neg h0, if_neg (fun c => by
          obtain ⟨c1, c2⟩ := c
          rw [if_neg (by omega)] at c2
          have := n1 c1
          omega), hF, hX]
theorem wz_ok_sb {n : Int} {ar : Int → Int} {a X : rf_N} (ha : vx_on a) : wz_ok n ar (vx_sb a X) ↔ wz_ok n ar a ∧ wz_ok n ar X := by
  obtain ⟨k, h, F, rfl⟩ := ha
  exact ⟨fun z => ⟨⟨z.1, trivial, z.2.2⟩, z.2.1⟩, fun z => ⟨z.1.1, z.2, z.1.2.2⟩⟩
theorem wz_ok_val {th : Int → rf_N} {n : Int} {ar : Int → Int} {AR : Nat → List Int} (hon : ∀ m, vx_on (th m)) : ∀ {A : rf_N} {e : Int → Int} {L : Int}, wz_nn A → (∀ m, vx_mt m A → wz_ok n ar (th m)) → wz_ok n ar (vx_val th AR A e L)
  | .leaf, _, _, _, _ => trivial
  | .inner j q u F X, e, L, ⟨n1, n2, n3, n4⟩, hm => by
    have hX := wz_ok_val hon (AR := AR) (e := e) (L := L) n3 (fun m h => hm m (Or.inr (Or.inr h)))
    rw [vx_val_in]
    by_cases h0 : q.1 = 0
    · have hF := wz_ok_val hon (AR := AR) (e := vx_up e q.2 L) (L := L + 1) (n2 (by omega)) (fun m h => hm m (Or.inr (Or.inl ⟨by omega, h⟩)))
      rw [if_pos h0, wz_ok_in]
      dsimp only
      rw [if_neg (by omega)]
      refine ⟨hF, hX, fun _ => ?_⟩
      obtain ⟨s1, s2⟩ := vx_sg_1 (n4 h0)
      have := vx_val_on (AR := AR) (e := vx_up e q.2 L) (L := L + 1) hon s1
      rw [s2] at this
      exact this
    · rw [if_neg h0]
      by_cases h3 : q.1 = 3
      · rw [if_pos h3, wz_ok_sb (vx_re_on (hon _))]
        exact ⟨wz_ok_re _ (hm q.2 (Or.inl ⟨h3, rfl⟩)), hX⟩
      · have hF := wz_ok_val hon (AR := AR) (e := e) (L := L) (n2 h3) (fun m h => hm m (Or.inr (Or.inl ⟨h3, h⟩)))
        rw [if_neg h3, wz_ok_in]
        dsimp only
        rw [if_neg (fun c => by
          obtain ⟨c1, c2⟩ := c
          rw [if_neg (by omega)] at c2
          have := n1 c1
          omega)]
        exact ⟨hF, hX, fun z => absurd z h0⟩
theorem wz_vs : ∀ (n : Nat) (i : Int), wz_vr (vx_vs n i) ∧ (dz_hs (vx_vs n i)).length = n ∧ ∀ k : Nat, k < n → (dz_hs (vx_vs n i))[k]? = some (i + (k : Int))
  | 0, _ => ⟨trivial, rfl, fun k h => absurd h (Nat.not_lt_zero _)⟩
  | n + 1, i => by
    obtain ⟨a, b, c⟩ := wz_vs n (i + 1)
    have e : dz_hs (vx_vs (n + 1) i) = i :: dz_hs (vx_vs n (i + 1)) := rfl
    refine ⟨⟨⟨rfl, rfl⟩, a⟩, by rw [e, List.length_cons, b], fun k hk => ?_⟩
    rw [e]
    cases k with
    | zero =>
      rw [List.getElem?_cons_zero]
      exact congrArg some (by omega)
    | succ k =>
      rw [List.getElem?_cons_succ, c k (by omega)]
      exact congrArg some (by omega)
theorem wz_ix_id {xs : List Int} {a v : Int} (hl : (xs.length : Int) = a) (hx : ∀ k : Nat, k < xs.length → xs[k]? = some (k : Int)) (hv : 0 ≤ v) : vx_ix xs a v = v := by
  unfold vx_ix
  by_cases c : v < (xs.length : Int)
  · rw [if_pos c, vx_getD (hx v.toNat (by omega))]
    omega
  · rw [if_neg c]
    omega
theorem wz_gn_ok {n : Int} {ar : Int → Int} {u : Int} (h0 : 0 ≤ u) (h1 : u < n) (ha : 0 ≤ ar u) : wz_ok n ar (vx_gn ar u) := by
  obtain ⟨a, b, _⟩ := wz_vs (ar u).toNat 0
  show wz_ok n ar (.inner 0 (1, -1 - u) () (vx_vs (ar u).toNat 0) .leaf)
  rw [wz_ok_in]
  dsimp only
  rw [if_pos ⟨rfl, by omega⟩]
  have e : -1 - (-1 - u) = u := by omega
  rw [e, b]
  exact ⟨⟨a, by omega, h1⟩, trivial, fun z => absurd z (by decide)⟩
theorem wz_in_gn {σ : Int → rf_N} (hg : vx_gd σ) {ar : Int → Int} {u : Int} (h0 : 0 ≤ u) (ha : 0 ≤ ar u) (hs : vx_sc (σ u) (ar u)) : wz_in σ (vx_gn ar u) (ar u) = σ u := by
  obtain ⟨_, b, c⟩ := wz_vs (ar u).toNat 0
  show wz_in σ (.inner 0 (1, -1 - u) () (vx_vs (ar u).toNat 0) .leaf) (ar u) = σ u
  rw [wz_in_in]
  dsimp only
  rw [if_neg (by decide), if_pos ⟨rfl, by omega⟩]
  have e : -1 - (-1 - u) = u := by omega
  have e1 : wz_in σ .leaf (ar u) = .leaf := rfl
  rw [e, e1, vx_sb_leaf (vx_re_on (hg u).1)]
  refine vx_re_id hs (fun v hv => wz_ix_id (by omega) (fun k hk => ?_) ((hg u).2 v hv))
  rw [c k (by omega)]
  exact congrArg some (by omega)
/-- every solution comes of the most general one -/
theorem wz_sol {S : vx_S} {th th' : Int → rf_N} {rk : Int → Nat} (hr : vx_rk S rk) (hW : vx_W S) (hB : vx_B1 S) (hS' : vx_So S th') (ho : ∀ u, S.2.2.2.1 u = none → th' u = vx_gn S.2.2.1 u) (hn : ∀ u B e, S.2.2.2.1 u = some (B, e) → wz_nn B) (hS : vx_So S th) : ∀ u, 0 ≤ u → u < S.1 → wz_ok S.1 S.2.2.1 (th' u) ∧ th u = wz_in th (th' u) (S.2.2.1 u) := by
  have main : ∀ k u, rk u < k → 0 ≤ u → u < S.1 → wz_ok S.1 S.2.2.1 (th' u) ∧ th u = wz_in th (th' u) (S.2.2.1 u) := by
    intro k
    induction k with
    | zero => exact fun u h => absurd h (Nat.not_lt_zero _)
    | succ k ih =>
      intro u hk u0 u1
      cases hb : S.2.2.2.1 u with
      | none =>
        rw [ho u hb]
        exact ⟨wz_gn_ok u0 u1 (hB.2 u), (wz_in_gn hS.1 u0 (hB.2 u) (hS.2.1 u u0 u1)).symm⟩
      | some p =>
        obtain ⟨B, e⟩ := p
        obtain ⟨_, w3, _⟩ := hW u B e hb
        have hm : ∀ m, vx_mt m B → wz_ok S.1 S.2.2.1 (th' m) ∧ th m = wz_in th (th' m) (S.2.2.1 m) := fun m hm => ih m (by have := hr u B e m hb hm; omega) (w3.1 m hm).1 (w3.1 m hm).2
        rw [hS'.2.2 u B e hb]
        refine ⟨wz_ok_val (fun m => (hS'.1 m).1) (hn u B e hb) (fun m h => (hm m h).1), ?_⟩
        rw [wz_in_val hS.1 (fun m => (hS'.1 m).1) (hn u B e hb) w3.2.2 hm]
        exact hS.2.2 u B e hb
  exact fun u => main (rk u + 1) u (by omega)
def wz_hd : rf_N → Int
  | .leaf => 0
  | .inner _ q _ _ _ => q.2
def wz_q : rf_N → Int × Int
  | .leaf => (0, 0)
  | .inner _ q _ _ _ => q
def wz_F : rf_N → rf_N
  | .leaf => .leaf
  | .inner _ _ _ F _ => F
/-- alike but for the numbers of the open unknowns and the order of their ARGs -/
def wz_rl (π π' : Int → Int) (I J : Int → List Int) : rf_N → rf_N → Prop
  | .leaf, .leaf => True
  | .inner _ q _ F X, .inner _ q' _ F' X' => (if q.1 = 1 ∧ q.2 < 0 then (q'.1 = 1 ∧ q'.2 < 0) ∧ (q'.2 = π q.2 ∧ q.2 = π' q'.2) ∧ dz_hs F' = (I q.2).map (fun i => (dz_hs F).getD i.toNat (-1)) ∧ dz_hs F = (J q'.2).map (fun i => (dz_hs F').getD i.toNat (-1)) else q' = q ∧ wz_rl π π' I J F F') ∧ wz_rl π π' I J X X'
  | _, _ => False
theorem wz_rl_in {π π' : Int → Int} {I J : Int → List Int} {j j' : Nat} {q q' : Int × Int} {u u' : Unit} {F X F' X' : rf_N} : wz_rl π π' I J (.inner j q u F X) (.inner j' q' u' F' X') ↔ (if q.1 = 1 ∧ q.2 < 0 then (q'.1 = 1 ∧ q'.2 < 0) ∧ (q'.2 = π q.2 ∧ q.2 = π' q'.2) ∧ dz_hs F' = (I q.2).map (fun i => (dz_hs F).getD i.toNat (-1)) ∧ dz_hs F = (J q'.2).map (fun i => (dz_hs F').getD i.toNat (-1)) else q' = q ∧ wz_rl π π' I J F F') ∧ wz_rl π π' I J X X' := Iff.rfl
/-- the variables of a row that is scoped -/
theorem wz_vr_sc {b : Int} : ∀ {F : rf_N}, wz_vr F → vx_sc F b → ∀ i ∈ dz_hs F, 0 ≤ i ∧ i < b
  | .leaf, _, _, i, h => absurd h List.not_mem_nil
  | .inner j q u F X, ⟨⟨h1, _⟩, h3⟩, ⟨_, hs, hX⟩, i, h => by
    rcases List.mem_cons.mp h with rfl | h
    · rcases hs with ⟨z, _⟩ | ⟨z | ⟨_, z⟩, _⟩
      · omega
      · omega
      · exact z
    · exact wz_vr_sc h3 hX i h
theorem wz_row {xs is : List Int} {L b : Int} (hl : (xs.length : Int) = b) (h : ∀ i ∈ is, 0 ≤ i ∧ i < b) : is.map (vx_ix xs L) = is.map (fun i => xs.getD i.toNat (-1)) := List.map_congr_left (fun i hi => by
  unfold vx_ix
  rw [if_pos (by have := h i hi; omega)])
theorem wz_n_in {j j' : Nat} {q q' : Int × Int} {F X F' X' : rf_N} (e : (.inner j q () F X : rf_N) = .inner j' q' () F' X') : j = j' ∧ q = q' ∧ F = F' ∧ X = X' := by
  injection e with e1 e2 e5 e3 e4
  exact ⟨e1, e2, e3, e4⟩
/-- each comes of the other: then they are alike -/
theorem wz_mut {σ τ : Int → rf_N} (gσ : vx_gd σ) (gτ : vx_gd τ) {n n' : Int} {ar ar' : Int → Int} (sσ : ∀ m, 0 ≤ m → m < n → vx_sc (σ m) (ar m)) (sτ : ∀ m, 0 ≤ m → m < n' → vx_sc (τ m) (ar' m)) : ∀ {A : rf_N} {L : Int}, wz_ok n ar A → wz_ok n' ar' (wz_in σ A L) → wz_in τ (wz_in σ A L) L = A → wz_rl (fun h => wz_hd (σ (-1 - h))) (fun h => wz_hd (τ (-1 - h))) (fun h => dz_hs (wz_F (σ (-1 - h)))) (fun h => dz_hs (wz_F (τ (-1 - h)))) A (wz_in σ A L)
  | .leaf, _, _, _, _ => trivial
  | .inner j q u F X, L, hA, hB, hE => by
    obtain ⟨a1, a2, _⟩ := wz_ok_in.mp hA
    by_cases h0 : q.1 = 0
    · have e1 : wz_in σ (.inner j q u F X) L = rf_n 0 0 0 (wz_in σ F (L + 1)) (wz_in σ X L) := by rw [wz_in_in, if_pos h0]
      rw [e1] at hB hE ⊢
      have e2 : wz_in τ (rf_n 0 0 0 (wz_in σ F (L + 1)) (wz_in σ X L)) L = rf_n 0 0 0 (wz_in τ (wz_in σ F (L + 1)) (L + 1)) (wz_in τ (wz_in σ X L) L) := rfl
      rw [e2] at hE
      obtain ⟨_, e4, e5, e6⟩ := wz_n_in hE
      have b1 : wz_ok n' ar' (wz_in σ F (L + 1)) ∧ wz_ok n' ar' (wz_in σ X L) := ⟨hB.1, hB.2.1⟩
      rw [if_neg (by omega)] at a1
      rw [wz_rl_in, if_neg (by omega)]
      exact ⟨⟨e4, wz_mut gσ gτ sσ sτ a1 b1.1 e5⟩, wz_mut gσ gτ sσ sτ a2 b1.2 e6⟩
    · by_cases h1 : q.1 = 1 ∧ q.2 < 0
      · obtain ⟨k, h', G, hσ⟩ := (gσ (-1 - q.2)).1
        rw [if_pos h1] at a1
        obtain ⟨a3, a4, a5⟩ := a1
        have e1 : wz_in σ (.inner j q u F X) L = rf_n 0 k (if k = 2 then vx_ix (dz_hs F) L h' else h') (vx_re (vx_ix (dz_hs F) L) G) (wz_in σ X L) := by
          rw [wz_in_in, if_neg h0, if_pos h1, hσ]
          rfl
        rw [e1] at hB hE ⊢
        obtain ⟨b1, b2, _⟩ := wz_ok_in.mp hB
        rw [wz_in_in] at hE
        dsimp only at b1 b2 hE
        by_cases k0 : k = 0
        · rw [if_pos k0] at hE
          obtain ⟨_, e4, _⟩ := wz_n_in hE
          rw [← e4] at h0
          exact absurd rfl h0
        · rw [if_neg k0] at hE
          by_cases k1 : k = 1 ∧ h' < 0
          · have eh : (if k = 2 then vx_ix (dz_hs F) L h' else h') = h' := if_neg (by omega)
            rw [eh, if_pos k1] at b1 hE
            rw [eh]
            obtain ⟨k2, h2, G2, hτ⟩ := (gτ (-1 - h')).1
            obtain ⟨b3, b4, b5⟩ := b1
            have vG := wz_vr_re.mp b3
            rw [hτ] at hE
            obtain ⟨_, e4, e5, e6⟩ := wz_n_in (j := 0) (q := (k2, if k2 = 2 then vx_ix (dz_hs (vx_re (vx_ix (dz_hs F) L) G)) L h2 else h2)) (F := vx_re (vx_ix (dz_hs (vx_re (vx_ix (dz_hs F) L) G)) L) G2) (X := wz_in τ (wz_in σ X L) L) hE
            have ek : k2 = q.1 := by rw [← e4]
            have eq2 : h2 = q.2 := by
              rw [← e4]
              show h2 = if k2 = 2 then _ else h2
              rw [if_neg (by omega)]
            have vG2 : wz_vr G2 := by
              rw [← e5] at a3
              exact wz_vr_re.mp a3
            have s1 : vx_sc G (ar (-1 - q.2)) := by
              have := sσ (-1 - q.2) (by omega) a5
              rw [hσ] at this
              obtain ⟨_, z, _⟩ := this
              rcases z with ⟨z, _⟩ | ⟨_, z⟩
              · exact absurd z k0
              · exact z
            have s2 : vx_sc G2 (ar' (-1 - h')) := by
              have := sτ (-1 - h') (by omega) b5
              rw [hτ] at this
              obtain ⟨_, z, _⟩ := this
              rcases z with ⟨z, _⟩ | ⟨_, z⟩
              · have z' : k2 = 0 := z
                omega
              · exact z
            rw [wz_rl_in, if_pos h1]
            refine ⟨⟨⟨k1.1, k1.2⟩, ⟨?_, ?_⟩, ?_, ?_⟩, wz_mut gσ gτ sσ sτ a2 b2 e6⟩
            · show h' = wz_hd (σ (-1 - q.2))
              rw [hσ]
              rfl
            · show q.2 = wz_hd (τ (-1 - h'))
              rw [hτ, ← eq2]
              rfl
            · show dz_hs (vx_re (vx_ix (dz_hs F) L) G) = (dz_hs (wz_F (σ (-1 - q.2)))).map (fun i => (dz_hs F).getD i.toNat (-1))
              rw [wz_hs_re _ vG, hσ]
              exact wz_row a4 (wz_vr_sc vG s1)
            · show dz_hs F = (dz_hs (wz_F (τ (-1 - h')))).map (fun i => (dz_hs (vx_re (vx_ix (dz_hs F) L) G)).getD i.toNat (-1))
              have e7 : dz_hs F = dz_hs (vx_re (vx_ix (dz_hs (vx_re (vx_ix (dz_hs F) L) G)) L) G2) := by rw [e5]
              rw [hτ]
              refine e7.trans ?_
              rw [wz_hs_re _ vG2]
              exact wz_row b4 (wz_vr_sc vG2 s2)
          · have c1 : ¬ (k = 1 ∧ (if k = 2 then vx_ix (dz_hs F) L h' else h') < 0) := fun d => by
              obtain ⟨d1, d2⟩ := d
              rw [if_neg (by omega)] at d2
              exact k1 ⟨d1, d2⟩
            rw [if_neg c1] at hE
            obtain ⟨_, e4, _⟩ := wz_n_in hE
            rw [← e4] at h1
            exact absurd h1 c1
      · have e1 : wz_in σ (.inner j q u F X) L = rf_n 0 q.1 q.2 (wz_in σ F L) (wz_in σ X L) := by rw [wz_in_in, if_neg h0, if_neg h1]
        rw [e1] at hB hE ⊢
        obtain ⟨b1, b2, _⟩ := wz_ok_in.mp hB
        rw [wz_in_in] at hE
        dsimp only at b1 b2 hE
        rw [if_neg h0, if_neg h1] at hE
        obtain ⟨_, e4, e5, e6⟩ := wz_n_in hE
        rw [if_neg h1] at a1 b1
        rw [wz_rl_in, if_neg h1]
        exact ⟨⟨e4, wz_mut gσ gτ sσ sτ a1 b1 e5⟩, wz_mut gσ gτ sσ sτ a2 b2 e6⟩
/-- the open unknowns, with their ARGs, in the order in which they are met -/
def wz_ad (a : List (Int × List Int)) (h : Int) (xs : List Int) : List (Int × List Int) := if h ∈ a.map Prod.fst then a else a ++ [(h, xs)]
def wz_go : rf_N → List (Int × List Int) → List (Int × List Int)
  | .leaf, a => a
  | .inner _ q _ F X, a => wz_go X (if q.1 = 1 ∧ q.2 < 0 then wz_ad a q.2 (dz_hs F) else wz_go F a)
theorem wz_go_in (j : Nat) (q : Int × Int) (u : Unit) (F X : rf_N) (a : List (Int × List Int)) : wz_go (.inner j q u F X) a = wz_go X (if q.1 = 1 ∧ q.2 < 0 then wz_ad a q.2 (dz_hs F) else wz_go F a) := rfl
/-- it is met -/
def wz_oc (h : Int) : rf_N → Prop
  | .leaf => False
  | .inner _ q _ F X => (if q.1 = 1 ∧ q.2 < 0 then q.2 = h else wz_oc h F) ∨ wz_oc h X
theorem wz_oc_in {h : Int} {j : Nat} {q : Int × Int} {u : Unit} {F X : rf_N} : wz_oc h (.inner j q u F X) ↔ (if q.1 = 1 ∧ q.2 < 0 then q.2 = h else wz_oc h F) ∨ wz_oc h X := Iff.rfl
theorem wz_ad_mem {a : List (Int × List Int)} {h x : Int} {xs : List Int} : x ∈ (wz_ad a h xs).map Prod.fst ↔ x ∈ a.map Prod.fst ∨ h = x := by
  unfold wz_ad
  by_cases c : h ∈ a.map Prod.fst
  · rw [if_pos c]
    exact ⟨fun z => Or.inl z, fun z => z.elim id (fun z => z ▸ c)⟩
  · rw [if_neg c, List.map_append, List.mem_append]
    refine ⟨fun z => z.imp id (fun z => ?_), fun z => z.imp id (fun z => ?_)⟩
    · exact (List.mem_singleton.mp z).symm
    · exact List.mem_singleton.mpr z.symm
theorem wz_go_mem {x : Int} : ∀ {A : rf_N} {a : List (Int × List Int)}, x ∈ (wz_go A a).map Prod.fst ↔ x ∈ a.map Prod.fst ∨ wz_oc x A
  | .leaf, a => ⟨fun h => Or.inl h, fun h => h.elim id (fun z => z.elim)⟩
  | .inner j q u F X, a => by
    rw [wz_go_in, wz_go_mem (A := X), wz_oc_in]
    by_cases c : q.1 = 1 ∧ q.2 < 0
    · rw [if_pos c, if_pos c, wz_ad_mem, or_assoc]
    · rw [if_neg c, if_neg c, wz_go_mem (A := F), or_assoc]
theorem wz_go_sub : ∀ {A : rf_N} {a : List (Int × List Int)}, (∀ x, wz_oc x A → x ∈ a.map Prod.fst) → wz_go A a = a
  | .leaf, _, _ => rfl
  | .inner j q u F X, a, h => by
    rw [wz_go_in]
    have hX := wz_go_sub (A := X) (a := a) (fun x hx => h x (wz_oc_in.mpr (Or.inr hx)))
    by_cases c : q.1 = 1 ∧ q.2 < 0
    · rw [if_pos c]
      unfold wz_ad
      rw [if_pos (h q.2 (wz_oc_in.mpr (Or.inl (by rw [if_pos c])))), hX]
    · rw [if_neg c, wz_go_sub (A := F) (a := a) (fun x hx => h x (wz_oc_in.mpr (Or.inl (by rw [if_neg c]; exact hx)))), hX]
theorem wz_oc_re {ρ : Int → Int} {x : Int} : ∀ {A : rf_N}, wz_oc x (vx_re ρ A) ↔ wz_oc x A
  | .leaf => Iff.rfl
  | .inner j q u F X => by
    rw [vx_re_in, wz_oc_in, wz_oc_in, wz_oc_re (A := X)]
    dsimp only
    by_cases c : q.1 = 1 ∧ q.2 < 0
    · have e : (if q.1 = 2 then ρ q.2 else q.2) = q.2 := if_neg (by omega)
      rw [e, if_pos c, if_pos c]
    · have e : ¬ (q.1 = 1 ∧ (if q.1 = 2 then ρ q.2 else q.2) < 0) := fun d => by
        obtain ⟨d1, d2⟩ := d
        rw [if_neg (by omega)] at d2
        exact c ⟨d1, d2⟩
      rw [if_neg e, if_neg c, wz_oc_re (A := F)]
/-- two lists, one by one -/
def wz_Rl (P : Int × List Int → Int × List Int → Prop) : List (Int × List Int) → List (Int × List Int) → Prop
  | [], [] => True
  | p :: a, r :: b => P p r ∧ wz_Rl P a b
  | _, _ => False
theorem wz_Rl_app {P : Int × List Int → Int × List Int → Prop} {p r : Int × List Int} (hp : P p r) : ∀ {a b : List (Int × List Int)}, wz_Rl P a b → wz_Rl P (a ++ [p]) (b ++ [r])
  | [], [], _ => ⟨hp, trivial⟩
  | _ :: _, _ :: _, h => ⟨h.1, wz_Rl_app hp h.2⟩
  | [], _ :: _, h => h.elim
  | _ :: _, [], h => h.elim
theorem wz_Rl_get {P : Int × List Int → Int × List Int → Prop} : ∀ {a b : List (Int × List Int)} {i : Nat} {p : Int × List Int}, wz_Rl P a b → a[i]? = some p → ∃ r, b[i]? = some r ∧ P p r
  | [], [], _, _, _, h => by simp at h
  | p :: a, r :: b, 0, p', hR, h => by
    rw [List.getElem?_cons_zero] at h
    cases h
    exact ⟨r, rfl, hR.1⟩
  | p :: a, r :: b, i + 1, p', hR, h => by
    rw [List.getElem?_cons_succ] at h
    obtain ⟨r', h1, h2⟩ := wz_Rl_get hR.2 h
    exact ⟨r', by rw [List.getElem?_cons_succ]; exact h1, h2⟩
  | [], _ :: _, _, _, h, _ => h.elim
  | _ :: _, [], _, _, h, _ => h.elim
/-- the same open unknown on both sides -/
def wz_P (π π' : Int → Int) (I J : Int → List Int) (p r : Int × List Int) : Prop := (r.1 = π p.1 ∧ p.1 = π' r.1) ∧ r.2 = (I p.1).map (fun i => p.2.getD i.toNat (-1)) ∧ p.2 = (J r.1).map (fun i => r.2.getD i.toNat (-1))
theorem wz_Rl_mem {π π' : Int → Int} {I J : Int → List Int} {h h' : Int} (e : h' = π h) (e' : h = π' h') : ∀ {a b : List (Int × List Int)}, wz_Rl (wz_P π π' I J) a b → (h ∈ a.map Prod.fst ↔ h' ∈ b.map Prod.fst)
  | [], [], _ => ⟨fun z => absurd z List.not_mem_nil, fun z => absurd z List.not_mem_nil⟩
  | p :: a, r :: b, hR => by
    have ih := wz_Rl_mem e e' hR.2
    obtain ⟨⟨e1, e2⟩, _⟩ := hR.1
    rw [List.map_cons, List.map_cons, List.mem_cons, List.mem_cons, ih]
    refine ⟨fun z => z.imp (fun z => ?_) id, fun z => z.imp (fun z => ?_) id⟩
    · rw [e, z, e1]
    · rw [e', z, e2]
  | [], _ :: _, h => h.elim
  | _ :: _, [], h => h.elim
theorem wz_go_rl {π π' : Int → Int} {I J : Int → List Int} : ∀ {A B : rf_N} {a b : List (Int × List Int)}, wz_rl π π' I J A B → wz_Rl (wz_P π π' I J) a b → wz_Rl (wz_P π π' I J) (wz_go A a) (wz_go B b)
  | .leaf, .leaf, _, _, _, h => h
  | .inner j q u F X, .inner j' q' u' F' X', a, b, hR, h => by
    obtain ⟨h1, h2⟩ := wz_rl_in.mp hR
    rw [wz_go_in, wz_go_in]
    refine wz_go_rl h2 ?_
    by_cases c : q.1 = 1 ∧ q.2 < 0
    · rw [if_pos c] at h1
      obtain ⟨c', ⟨e1, e2⟩, e3, e4⟩ := h1
      rw [if_pos c, if_pos c']
      unfold wz_ad
      have hm := wz_Rl_mem e1 e2 h
      by_cases d : q.2 ∈ a.map Prod.fst
      · rw [if_pos d, if_pos (hm.mp d)]
        exact h
      · rw [if_neg d, if_neg (fun z => d (hm.mpr z))]
        exact wz_Rl_app ⟨⟨e1, e2⟩, e3, e4⟩ h
    · rw [if_neg c] at h1
      obtain ⟨e1, e2⟩ := h1
      rw [if_neg c, if_neg (by rw [e1]; exact c)]
      exact wz_go_rl e2 h
  | .leaf, .inner _ _ _ _ _, _, _, h, _ => h.elim
  | .inner _ _ _ _ _, .leaf, _, _, h, _ => h.elim
/-- two most general solutions of one set of equations -/
def wz_MG (S : vx_S) (n0 : Int) (Q : (Int → rf_N) → Prop) (th : Int → rf_N) : Prop := True → (vx_W S ∧ vx_B1 S ∧ ∃ rk, vx_rk S rk) ∧ (∀ u B e, S.2.2.2.1 u = some (B, e) → wz_nn B) ∧ (vx_So S th ∧ ∀ u, S.2.2.2.1 u = none → th u = vx_gn S.2.2.1 u) ∧ (∀ th', vx_So S th' → Q th') ∧ n0 ≤ S.1 ∧ ∀ th0, vx_gd th0 → (∀ u, 0 ≤ u → u < n0 → vx_sc (th0 u) (S.2.2.1 u)) → Q th0 → ∃ th', vx_So S th' ∧ vx_ag n0 th0 th'
/-- all of them, as they are met in the values of the first n unknowns -/
def wz_al (th : Int → rf_N) : Nat → List (Int × List Int)
  | 0 => []
  | n + 1 => wz_go (th (n : Int)) (wz_al th n)
theorem wz_al_rl {π π' : Int → Int} {I J : Int → List Int} {th th' : Int → rf_N} : ∀ {n : Nat}, (∀ u : Int, 0 ≤ u → u < (n : Int) → wz_rl π π' I J (th u) (th' u)) → wz_Rl (wz_P π π' I J) (wz_al th n) (wz_al th' n)
  | 0, _ => trivial
  | n + 1, h => wz_go_rl (h (n : Int) (by omega) (by omega)) (wz_al_rl (fun u u0 u1 => h u u0 (by omega)))
theorem wz_al_mem {th : Int → rf_N} {x : Int} : ∀ {n : Nat}, x ∈ (wz_al th n).map Prod.fst ↔ ∃ u : Int, (0 ≤ u ∧ u < (n : Int)) ∧ wz_oc x (th u)
  | 0 => ⟨fun h => absurd h List.not_mem_nil, fun ⟨u, h, _⟩ => by omega⟩
  | n + 1 => by
    show x ∈ (wz_go (th (n : Int)) (wz_al th n)).map Prod.fst ↔ _
    rw [wz_go_mem, wz_al_mem (n := n)]
    constructor
    · rintro (⟨u, h, hx⟩ | h)
      · exact ⟨u, by omega, hx⟩
      · exact ⟨(n : Int), by omega, h⟩
    · rintro ⟨u, h, hx⟩
      by_cases c : u = (n : Int)
      · rw [c] at hx
        exact Or.inr hx
      · exact Or.inl ⟨u, by omega, hx⟩
