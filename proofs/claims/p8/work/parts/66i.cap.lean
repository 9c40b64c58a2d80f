/-! ===== the turns are never used up ===== -/
section
variable {sz : Int → Nat}
def vw_ins (sz : Int → Nat) (x : Int) : List Int → List Int
  | [] => [x]
  | y :: r => if sz y ≤ sz x then x :: y :: r else y :: vw_ins sz x r
theorem vw_ins_mem {x z : Int} : ∀ {l : List Int}, z ∈ vw_ins sz x l ↔ z = x ∨ z ∈ l
  | [] => by
    show z ∈ [x] ↔ _
    rw [List.mem_singleton]
    exact ⟨Or.inl, fun h => h.elim id (fun q => absurd q List.not_mem_nil)⟩
  | y :: r => by
    show z ∈ (if sz y ≤ sz x then x :: y :: r else y :: vw_ins sz x r) ↔ _
    by_cases c : sz y ≤ sz x
    · rw [if_pos c, List.mem_cons]
    · rw [if_neg c, List.mem_cons, vw_ins_mem, List.mem_cons]
      constructor
      · rintro (h | h | h)
        · exact Or.inr (Or.inl h)
        · exact Or.inl h
        · exact Or.inr (Or.inr h)
      · rintro (h | h | h)
        · exact Or.inr (Or.inl h)
        · exact Or.inl h
        · exact Or.inr (Or.inr h)
theorem vw_ins_nd {x : Int} : ∀ {l : List Int}, x ∉ l → l.Nodup → (vw_ins sz x l).Nodup
  | [], _, _ => List.nodup_cons.mpr ⟨List.not_mem_nil, List.Pairwise.nil⟩
  | y :: r, hx, hn => by
    show (if sz y ≤ sz x then x :: y :: r else y :: vw_ins sz x r).Nodup
    by_cases c : sz y ≤ sz x
    · rw [if_pos c]
      exact List.nodup_cons.mpr ⟨hx, hn⟩
    · rw [if_neg c]
      obtain ⟨n1, n2⟩ := List.nodup_cons.mp hn
      refine List.nodup_cons.mpr ⟨fun h => ?_, vw_ins_nd (fun h => hx (List.mem_cons_of_mem _ h)) n2⟩
      rcases vw_ins_mem.mp h with h | h
      · exact hx (by rw [h]; exact List.mem_cons_self)
      · exact n1 h
theorem vw_ins_pw {x : Int} : ∀ {l : List Int}, l.Pairwise (fun a b => sz b ≤ sz a) → (vw_ins sz x l).Pairwise (fun a b => sz b ≤ sz a)
  | [], _ => List.pairwise_cons.mpr ⟨fun _ h => absurd h List.not_mem_nil, List.Pairwise.nil⟩
  | y :: r, hp => by
    obtain ⟨p1, p2⟩ := List.pairwise_cons.mp hp
    show (if sz y ≤ sz x then x :: y :: r else y :: vw_ins sz x r).Pairwise _
    by_cases c : sz y ≤ sz x
    · rw [if_pos c]
      refine List.pairwise_cons.mpr ⟨fun z hz => ?_, hp⟩
      rcases List.mem_cons.mp hz with rfl | hz
      · exact c
      · have := p1 z hz
        omega
    · rw [if_neg c]
      refine List.pairwise_cons.mpr ⟨fun z hz => ?_, vw_ins_pw p2⟩
      rcases vw_ins_mem.mp hz with rfl | hz
      · omega
      · exact p1 z hz
theorem vw_sort : ∀ n : Nat, ∃ us : List Int, us.length = n ∧ us.Nodup ∧ (∀ m, m ∈ us ↔ 0 ≤ m ∧ m < (n : Int)) ∧ us.Pairwise (fun a b => sz b ≤ sz a)
  | 0 => ⟨[], rfl, List.Pairwise.nil, fun m => ⟨fun h => absurd h List.not_mem_nil, fun h => by omega⟩, List.Pairwise.nil⟩
  | n + 1 => by
    obtain ⟨us, h0, h1, h2, h3⟩ := vw_sort n
    have hl : ∀ l : List Int, (vw_ins sz (n : Int) l).length = l.length + 1 := fun l => by
      induction l with
      | nil => rfl
      | cons y r ih =>
        show (if sz y ≤ sz (n : Int) then (n : Int) :: y :: r else y :: vw_ins sz (n : Int) r).length = _
        by_cases c : sz y ≤ sz (n : Int)
        · rw [if_pos c]
          rfl
        · rw [if_neg c, List.length_cons, ih]
          rfl
    refine ⟨vw_ins sz (n : Int) us, by rw [hl, h0], vw_ins_nd (fun h => by have := (h2 _).mp h; omega) h1, fun m => ?_, vw_ins_pw h3⟩
    rw [vw_ins_mem, h2]
    constructor
    · rintro (h | h) <;> omega
    · intro h
      by_cases c : m = (n : Int)
      · exact Or.inl c
      · exact Or.inr (by omega)
end
theorem vw_cn_cg {AR AR' : Nat → List Int} {b : Bool} {m : Int} : ∀ {A : rf_N} {ls : List Int}, (∀ j ∈ rf_idx A, AR' j = AR j) → vw_cn AR' b m A ls = vw_cn AR b m A ls
  | .leaf, _, _ => rfl
  | .inner j q u F X, ls, h => by
    have hX := vw_cn_cg (b := b) (m := m) (A := X) (ls := []) (fun i hi => h i (List.mem_cons_of_mem _ (List.mem_append_right _ hi)))
    have hF := fun ls => vw_cn_cg (b := b) (m := m) (A := F) (ls := ls) (fun i hi => h i (List.mem_cons_of_mem _ (List.mem_append_left _ hi)))
    have hj := h j List.mem_cons_self
    have hb : vw_br AR' ls j = vw_br AR ls j := by
      unfold vw_br
      rw [hj]
    rw [vw_cn_in, vw_cn_in, hX, hF, hF, hb]
theorem vw_cl_cg {AR AR' : Nat → List Int} {b : Bool} {m : Int} : ∀ {l : vw_L}, (∀ q ∈ l, (∀ j ∈ rf_idx q.1, AR' j = AR j) ∧ ∀ j ∈ rf_idx q.2, AR' j = AR j) → vw_cl AR' b m l = vw_cl AR b m l
  | [], _ => rfl
  | q :: l, h => by
    obtain ⟨h1, h2⟩ := h q List.mem_cons_self
    show vw_cn AR' b m q.1 [] + vw_cn AR' b m q.2 [] + vw_cl AR' b m l = vw_cn AR b m q.1 [] + vw_cn AR b m q.2 [] + vw_cl AR b m l
    rw [vw_cn_cg h1, vw_cn_cg h2, vw_cl_cg (fun p hp => h p (List.mem_cons_of_mem _ hp))]
/-- an unknown without ARGs is always bare -/
theorem vw_cn_b0 {AR : Nat → List Int} {ar : Int → Int} {m : Int} (hm : ar m = 0) : ∀ {A : rf_N} {ls : List Int}, vx_ok ar AR A → vw_cn AR false m A ls = 0
  | .leaf, _, _ => rfl
  | .inner j q u F X, ls, ⟨h1, h2⟩ => by
    rw [vw_cn_in, vw_cn_b0 hm h2]
    rcases h1 with ⟨c, h1⟩ | ⟨c, h1⟩
    · rw [if_neg (by omega), vw_cn_b0 hm h1, vw_cn_b0 hm h1]
      split <;> rfl
    · rw [if_pos c, if_neg (fun z => ?_)]
      have e : q.2 = m := z.1
      rw [e, hm] at h1
      have e2 : AR j = [] := List.length_eq_zero_iff.mp (by omega)
      have e3 : vw_br AR ls j = true := decide_eq_true (by rw [e2]; rfl)
      rw [e3] at z
      cases z.2
theorem vx_ls_snoc {f : Int → Nat} {m : Int} : ∀ {l : List Int}, vx_ls f (l ++ [m]) = vx_ls f l + f m
  | [] => by
    show f m + 0 = 0 + f m
    omega
  | y :: r => by
    show f y + vx_ls f (r ++ [m]) = f y + vx_ls f r + f m
    rw [vx_ls_snoc]
    omega
theorem vl_cap {SN : Int → Int → Prop} {TV : Int → qx_T → Prop} {AR : Nat → List Int} {b : Nat → Int} {n : Int} {l : List vl_I} {tl : vw_L} {S : vx_S} {th : Int → rf_N} (hn : 0 ≤ n) (hn2 : n ≤ 240) (hX : vl_TX (px_K b n) l 0) (hck : px_ck SN l [] [] 0) (htx : vl_tx SN TV AR l [] [] tl) (hAR : ∀ q ∈ tl, (∀ j ∈ rf_idx q.1, S.2.2.2.2 j = AR j) ∧ ∀ j ∈ rf_idx q.2, S.2.2.2.2 j = AR j) (hmt : ∀ q ∈ tl, ∀ m, vx_mt m q.1 ∨ vx_mt m q.2 → 0 ≤ m ∧ m < ((vl_mf l []).length : Int)) (h5 : (vl_mf l []).length ≤ 5) (har : ∀ (m : Nat) q, (vl_mf l [])[m]? = some q → vw_cl AR false (m : Int) tl ≠ 0 → 2 ≤ qx_at q.2) (hS : vx_So S th) (hB : vw_B tl S) (hnl : ∀ u C e, S.2.2.2.1 u = some (C, e) → ¬ vx_isl C) : vw_F S tl < 1000000 := by
  obtain ⟨us, u0, u1, u2, u3⟩ := vw_sort (sz := fun m => vx_sz (th m)) (vl_mf l []).length
  have hbd := fun m => vw_bd_M hB hS m
  have hk0 : ∀ m, vw_bd S m = .leaf ∨ ∃ (j : Nat) (k h : Int) (F : rf_N), vw_bd S m = rf_n j k h F .leaf ∧ (k ≠ 0 ∧ k ≠ 3) ∧ vw_M tl (rf_n j k h F .leaf) ∧ ∀ m', vx_mt m' (rf_n j k h F .leaf) → vx_sz (th m') < vx_sz (th m) := fun m => by
    rcases hbd m with q | ⟨j, k, h, F, q1, q2, q3, q4⟩
    · exact Or.inl q
    · refine Or.inr ⟨j, k, h, F, q1, ⟨fun k0 => ?_, q2⟩, q3, q4⟩
      rcases vw_bd_or S m with z | ⟨⟨w, B, e, z1, z2⟩, _⟩
      · rw [q1] at z
        cases z
      · rw [q1] at z2
        have lam : vx_isl (rf_n j k h F .leaf) := ⟨j, h, F, by rw [k0]⟩
        rcases vw_wy_end z2 with z | ⟨x, ex, z⟩
        · rw [z] at z1
          exact hnl m _ e z1 lam
        · exact hnl x _ ex z lam
  have cd : vw_cd (vw_bd S) us := vw_cd_sort (sz := fun m => vx_sz (th m)) (full := fun m => m ∈ us) (fun m m' hm => by
    rcases hk0 m with q | ⟨j, k, h, F, q1, _, ⟨p, hp, q3⟩, q4⟩
    · rw [q] at hm
      exact hm.elim
    · rw [q1] at hm
      refine ⟨q4 m' hm, (u2 m').mpr (hmt p hp m' ?_)⟩
      exact q3.imp (vw_su_mt hm) (vw_su_mt hm)) (fun x hx => Or.inl hx) u3
  have cg : ∀ bb m, vw_cl S.2.2.2.2 bb m tl = vw_cl AR bb m tl := fun bb m => vw_cl_cg hAR
  have F1 := vw_F_le (S := S) (us := us) (l := tl) (fun q hq m hm => (u2 m).mpr (hmt q hq m hm))
  have F2 := vw_P (bd := vw_bd S) (AR := S.2.2.2.2) (c := fun m => vw_cl S.2.2.2.2 true m tl) (e := fun m => vw_cl S.2.2.2.2 false m tl) (fun m m' => by
    rcases hk0 m with q | ⟨j, k, h, F, q1, ⟨q0, q3⟩, ⟨p, hp, q4⟩, _⟩
    · rw [q]
      exact ⟨Nat.zero_le _, Nat.zero_le _⟩
    · rw [q1]
      have key : ∀ bb, vw_cn S.2.2.2.2 bb m' (rf_n j k h F .leaf) [] ≤ vw_cl S.2.2.2.2 bb m' tl := fun bb => by
        have a1 := vw_cl_mem (AR := S.2.2.2.2) (b := bb) (m := m') hp
        rcases q4 with q4 | q4
        · have := vw_cn_su (AR := S.2.2.2.2) (b := bb) (m := m') q0 q3 [] [] q4
          omega
        · have := vw_cn_su (AR := S.2.2.2.2) (b := bb) (m := m') q0 q3 [] [] q4
          omega
      exact ⟨key true, key false⟩) cd 6
  -- the bytes
  have hP := vl_P5_ps (b := b) hn
  have tx : ∀ D : List Int, D.Nodup → (∀ m ∈ D, 0 ≤ m ∧ m < ((vl_mf l []).length : Int)) → vx_ls (fun m => (if vw_cl S.2.2.2.2 false m tl = 0 then 8 else 10) + 2 * vw_cl S.2.2.2.2 true m tl + 6 * vw_cl S.2.2.2.2 false m tl) D ≤ 246 ∧ vw_H tl ≤ 272 ∧ ∀ m, (∀ x ∈ D, ¬ vx_mt x (vw_bd S m)) → vx_ls (fun m => (if vw_cl S.2.2.2.2 false m tl = 0 then 8 else 10) + 2 * vw_cl S.2.2.2.2 true m tl + 6 * vw_cl S.2.2.2.2 false m tl) D + vw_np (vw_bd S m) ≤ 246 := fun D hD hm => by
    obtain ⟨z, ⟨z0, _⟩, z2, z3, z4, _, z6⟩ := vl_text (AR := AR) (o := fun m => if vw_cl S.2.2.2.2 false m tl = 0 then 8 else 10) hD hP (Int.le_refl _) hX hck htx (fun _ h => absurd h List.not_mem_nil) (fun _ h => absurd h List.not_mem_nil) (fun m q hq => by
      try dsimp only
      by_cases c : vw_cl S.2.2.2.2 false (m : Int) tl = 0
      · rw [if_pos c]
        exact Or.inl (Nat.le_refl _)
      · rw [if_neg c]
        rw [cg] at c
        exact Or.inr ⟨har m q hq c, Nat.le_refl _⟩) (fun m h => (hm m h).2)
    try dsimp only at z3 z4 z6
    obtain ⟨w1, w2⟩ := vl_ps_le (b := b) hn z.toNat
    have eD : vl_ol (fun m => if vw_cl S.2.2.2.2 false m tl = 0 then 8 else 10) D 0 + vl_wl AR D tl = vx_ls (fun m => (if vw_cl S.2.2.2.2 false m tl = 0 then 8 else 10) + 2 * vw_cl S.2.2.2.2 true m tl + 6 * vw_cl S.2.2.2.2 false m tl) D := by
      rw [vl_wl_cl]
      unfold vl_ol
      rw [← vx_ls_add]
      have le : ∀ {f g : Int → Nat}, (∀ x ∈ D, f x = g x) → vx_ls f D = vx_ls g D := fun h => vx_ls_cg h
      refine le (fun m hm' => ?_)
      have c1 := cg true m
      have c2 := cg false m
      rw [if_pos (by have := (hm m hm').1; omega)]
      try dsimp only
      omega
    have e0 : ([] : List (Int × qx_T)).length = 0 := rfl
    rw [e0] at z3 z6
    rw [eD] at z3
    refine ⟨by omega, by omega, fun m hx => ?_⟩
    rcases hk0 m with q | ⟨j, k, h, F, q1, ⟨q0, q3⟩, q4, _⟩
    · rw [q]
      have zz : vw_np .leaf = 0 := rfl
      omega
    · rw [q1] at hx ⊢
      have := z6 j k h F q0 q3 q4 hx
      rw [eD] at this
      omega
  have fit : ∀ (suf pre : List Int), us = pre ++ suf → vw_fit (fun m => if vw_cl S.2.2.2.2 false m tl = 0 then 8 else 10) (fun m => vw_cl S.2.2.2.2 true m tl) (fun m => vw_cl S.2.2.2.2 false m tl) (vw_bd S) (246 - vx_ls (fun m => (if vw_cl S.2.2.2.2 false m tl = 0 then 8 else 10) + 2 * vw_cl S.2.2.2.2 true m tl + 6 * vw_cl S.2.2.2.2 false m tl) pre) suf := by
    intro suf
    induction suf with
    | nil => exact fun _ _ => trivial
    | cons m suf ih =>
      intro pre e
      have e' : us = (pre ++ [m]) ++ suf := by rw [e, List.append_assoc]; rfl
      have sub : ∀ x ∈ pre ++ [m], x ∈ us := fun x hx => by rw [e']; exact List.mem_append_left _ hx
      have nd : (pre ++ [m]).Nodup := by
        rw [e'] at u1
        exact (List.nodup_append.mp u1).1
      have ls : vx_ls (fun m => (if vw_cl S.2.2.2.2 false m tl = 0 then 8 else 10) + 2 * vw_cl S.2.2.2.2 true m tl + 6 * vw_cl S.2.2.2.2 false m tl) (pre ++ [m]) = vx_ls (fun m => (if vw_cl S.2.2.2.2 false m tl = 0 then 8 else 10) + 2 * vw_cl S.2.2.2.2 true m tl + 6 * vw_cl S.2.2.2.2 false m tl) pre + ((if vw_cl S.2.2.2.2 false m tl = 0 then 8 else 10) + 2 * vw_cl S.2.2.2.2 true m tl + 6 * vw_cl S.2.2.2.2 false m tl) := by
        exact vx_ls_snoc
      have t := (tx (pre ++ [m]) nd (fun x hx => (u2 x).mp (sub x hx))).2.2 m (fun x hx hmx => by
        rcases hk0 m with q | ⟨j, k, h, F, q1, _, _, q4⟩
        · rw [q] at hmx
          exact hmx.elim
        · rw [q1] at hmx
          have lt := q4 x hmx
          rcases List.mem_append.mp hx with hx | hx
          · rw [e] at u3
            have := (List.pairwise_append.mp u3).2.2 x hx m List.mem_cons_self
            omega
          · rw [List.mem_singleton.mp hx] at lt
            exact Nat.lt_irrefl _ lt)
      rw [ls] at t
      refine ⟨(by (try dsimp only); omega), ?_⟩
      have := ih (pre ++ [m]) e'
      rw [ls] at this
      try dsimp only
      rw [show 246 - vx_ls (fun m => (if vw_cl S.2.2.2.2 false m tl = 0 then 8 else 10) + 2 * vw_cl S.2.2.2.2 true m tl + 6 * vw_cl S.2.2.2.2 false m tl) pre - ((if vw_cl S.2.2.2.2 false m tl = 0 then 8 else 10) + 2 * vw_cl S.2.2.2.2 true m tl + 6 * vw_cl S.2.2.2.2 false m tl) = 246 - (vx_ls (fun m => (if vw_cl S.2.2.2.2 false m tl = 0 then 8 else 10) + 2 * vw_cl S.2.2.2.2 true m tl + 6 * vw_cl S.2.2.2.2 false m tl) pre + ((if vw_cl S.2.2.2.2 false m tl = 0 then 8 else 10) + 2 * vw_cl S.2.2.2.2 true m tl + 6 * vw_cl S.2.2.2.2 false m tl)) by omega]
      exact this
  have ok := vw_fit_ok (o := fun m => if vw_cl S.2.2.2.2 false m tl = 0 then 8 else 10) (B := 123) (fun m => by
    try dsimp only
    by_cases c : vw_cl S.2.2.2.2 false m tl = 0
    · rw [if_pos c]
      exact ⟨Nat.le_refl _, fun z => absurd c z⟩
    · rw [if_neg c]
      exact ⟨by omega, fun _ => Nat.le_refl _⟩) (fit us [] rfl)
  have most := vz_most (by rw [List.length_map]; omega) ok
  have H := (tx [] List.Pairwise.nil (fun _ h => absurd h List.not_mem_nil)).2.1
  have F3 : vw_F S tl ≤ vw_H tl + vz_P (us.map (fun m => (vw_cl S.2.2.2.2 true m tl, vw_cl S.2.2.2.2 false m tl, vw_np (vw_bd S m)))) 6 := Nat.le_trans F1 (Nat.add_le_add_left F2 _)
  omega
