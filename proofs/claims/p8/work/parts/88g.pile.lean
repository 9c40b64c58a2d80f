/-! ===== the desk writes: its pile in memory, and its bytes ===== -/
/-- an entry: (A, c), L, mark; and what it is: 0 a whole term, 1 an ARG, 2 a bracket that closes -/
abbrev wk_I : Type := dv_K × Int
def wk_ws (s : sx_S) (AR : Nat → List Int) : Int → List wk_I → Prop
  | _, [] => True
  | hi, p :: r => (p.1.2.2 ≤ hi ∧ 0 ≤ p.1.2.2) ∧ (s.2.1 59 r.length = p.2 ∧ s.2.1 62 r.length = p.1.2.2) ∧ (p.2 ≠ 2 → dv_at s AR p.1.1.1 (s.2.1 57 r.length) ∧ dv_c s p.1.1.2 p.1.2.2 (s.2.1 58 r.length) ∧ s.2.1 61 r.length = p.1.2.1) ∧ wk_ws s AR p.1.2.2 r
theorem wk_ws_fr {s t : sx_S} {AR AR' : Nat → List Int} {n : Int} (hn : s.1 11 6 ≤ n) (h : dv_nf n AR AR' s t) : ∀ {r : List wk_I} {hi : Int}, (∀ j : Nat, (j : Int) < hi → t.2.1 30 j = s.2.1 30 j ∧ t.2.1 31 j = s.2.1 31 j ∧ t.2.1 32 j = s.2.1 32 j) → (∀ j : Nat, j < r.length → t.2.1 57 j = s.2.1 57 j ∧ t.2.1 58 j = s.2.1 58 j ∧ t.2.1 59 j = s.2.1 59 j ∧ t.2.1 61 j = s.2.1 61 j ∧ t.2.1 62 j = s.2.1 62 j) → wk_ws s AR hi r → wk_ws t AR' hi r
  | [], _, _, _, _ => trivial
  | p :: r, hi, hc, hp, ⟨⟨q1, q2⟩, ⟨q3, q4⟩, q5, q9⟩ => by
    obtain ⟨e1, e2, e3, e5, e6⟩ := hp r.length (by rw [List.length_cons]; omega)
    have hc' : ∀ j : Nat, (j : Int) < p.1.2.2 → t.2.1 30 j = s.2.1 30 j ∧ t.2.1 31 j = s.2.1 31 j ∧ t.2.1 32 j = s.2.1 32 j := fun j hj => hc j (by omega)
    refine ⟨⟨q1, q2⟩, ⟨by rw [e3]; exact q3, by rw [e6]; exact q4⟩, fun hne => ?_, wk_ws_fr hn h hc' (fun j hj => hp j (by rw [List.length_cons]; omega)) q9⟩
    obtain ⟨x1, x2, x3⟩ := q5 hne
    refine ⟨?_, ?_, by rw [e5]; exact x3⟩
    · rw [e1]
      exact dv_at_fr hn h x1
    · rw [e2]
      exact dv_ch_fr hc' x2
theorem wk_ws_hi {s : sx_S} {AR : Nat → List Int} {hi hi' : Int} (h : hi ≤ hi') : ∀ {r : List wk_I}, wk_ws s AR hi r → wk_ws s AR hi' r
  | [], _ => trivial
  | _ :: _, ⟨⟨q1, q2⟩, q3⟩ => ⟨⟨by omega, q2⟩, q3⟩
/-- what is put on paper leaves the pile -/
theorem wk_ws_p {s t : sx_S} {AR : Nat → List Int} {r : List wk_I} {hi : Int} (hF : cx_F [(55, 55), (65, 65)] s t) (h : wk_ws s AR hi r) : wk_ws t AR hi r := wk_ws_fr (Int.le_refl _) (dv_nf_F _ hF (by decide)) (fun j _ => by rw [(hF.same 30 rfl).2, (hF.same 31 rfl).2, (hF.same 32 rfl).2]; exact ⟨rfl, rfl, rfl⟩) (fun j _ => by rw [(hF.same 57 rfl).2, (hF.same 58 rfl).2, (hF.same 59 rfl).2, (hF.same 61 rfl).2, (hF.same 62 rfl).2]; exact ⟨rfl, rfl, rfl, rfl, rfl⟩) h
/-- settling leaves the pile -/
theorem wk_ws_l {s t : sx_S} {AR : Nat → List Int} {r : List wk_I} (hF : cx_F [(29, 33)] s t) (hl : dv_lf s t) (h : wk_ws s AR (s.1 29 3) r) : wk_ws t AR (t.1 29 3) r := wk_ws_hi (hl trivial).1 (wk_ws_fr (Int.le_refl _) (dv_nf_F _ hF (by decide)) (hl trivial).2 (fun j _ => by rw [(hF.same 57 rfl).2, (hF.same 58 rfl).2, (hF.same 59 rfl).2, (hF.same 61 rfl).2, (hF.same 62 rfl).2]; exact ⟨rfl, rfl, rfl, rfl, rfl⟩) h)
/-- an entry is put on the pile -/
theorem wk_ws_pu {s t : sx_S} {AR : Nat → List Int} {r : List wk_I} {z cc o L mk : Int} {A : rf_N} {c : List (Int × Int)} (hF : cx_F [(56, 62)] s t) (hp : dv_pu 56 (z, cc, o, -1, L, mk) s t) (h6 : s.1 56 6 = (r.length : Int)) (m0 : 0 ≤ mk) (hr : wk_ws s AR mk r) (he : o ≠ 2 → dv_at s AR A z ∧ dv_c s c mk cc) : wk_ws t AR mk ((((A, c), L, mk), o) :: r) ∧ t.1 56 6 = (((((A, c), L, mk), o) :: r).length : Int) := by
  obtain ⟨p1, p2, p3, p4, p5, p6, p7, p8⟩ := hp trivial
  have e0 : (s.1 56 6).toNat = r.length := by omega
  have q1 : t.2.1 57 r.length = z := by rw [← e0]; exact p3
  have q2 : t.2.1 58 r.length = cc := by rw [← e0]; exact p4
  have q3 : t.2.1 59 r.length = o := by rw [← e0]; exact p5
  have q5 : t.2.1 61 r.length = L := by rw [← e0]; exact p7
  have q6 : t.2.1 62 r.length = mk := by rw [← e0]; exact p8
  have nf : dv_nf (s.1 11 6) AR AR s t := dv_nf_F _ hF (by decide)
  have lk : ∀ j : Nat, t.2.1 30 j = s.2.1 30 j ∧ t.2.1 31 j = s.2.1 31 j ∧ t.2.1 32 j = s.2.1 32 j := fun j => by
    rw [(hF.same 30 rfl).2, (hF.same 31 rfl).2, (hF.same 32 rfl).2]
    exact ⟨rfl, rfl, rfl⟩
  refine ⟨⟨⟨Int.le_refl _, m0⟩, ⟨q3, q6⟩, fun ho => ?_, wk_ws_fr (Int.le_refl _) nf (fun j _ => lk j) (fun j hj => ?_) hr⟩, ?_⟩
  · obtain ⟨a1, a2⟩ := he ho
    refine ⟨?_, ?_, q5⟩
    · rw [q1]
      exact dv_at_fr (Int.le_refl _) nf a1
    · rw [q2]
      exact dv_ch_fr (fun j _ => lk j) a2
  · obtain ⟨b1, b2, b3, b4, b5, b6⟩ := p2 j (by omega)
    exact ⟨b1, b2, b3, b5, b6⟩
  · rw [List.length_cons]
    have p1' : t.1 56 6 = s.1 56 6 + 1 := p1
    omega
/-- the top of the pile is taken -/
theorem wk_ws_po {s u : sx_S} {AR : Nat → List Int} {p : wk_I} {r : List wk_I} {hi : Int} (hp : wk_po s u) (h6 : s.1 56 6 = ((p :: r).length : Int)) (hw : wk_ws s AR hi (p :: r)) : wk_ws u AR (u.1 29 3) r ∧ u.1 56 6 = (r.length : Int) ∧ u.1 29 3 = p.1.2.2 ∧ u.2.1 59 r.length = p.2 ∧ (p.2 ≠ 2 → dv_at u AR p.1.1.1 (u.2.1 57 r.length) ∧ dv_c u p.1.1.2 (u.1 29 3) (u.2.1 58 r.length) ∧ u.2.1 61 r.length = p.1.2.1) := by
  obtain ⟨o1, hF, o3, o4⟩ := hp trivial
  obtain ⟨⟨q1, q2⟩, ⟨q3, q4⟩, q5, q9⟩ := hw
  rw [List.length_cons] at h6
  have e0 : (s.1 56 6 - 1).toNat = r.length := by omega
  rw [e0, q4] at o4
  have nf : dv_nf (s.1 11 6) AR AR s u := dv_nf_F _ hF (by decide)
  have lk : ∀ j : Nat, u.2.1 30 j = s.2.1 30 j ∧ u.2.1 31 j = s.2.1 31 j ∧ u.2.1 32 j = s.2.1 32 j := fun j => by
    rw [(hF.same 30 rfl).2, (hF.same 31 rfl).2, (hF.same 32 rfl).2]
    exact ⟨rfl, rfl, rfl⟩
  rw [o4]
  refine ⟨wk_ws_fr (Int.le_refl _) nf (fun j _ => lk j) (fun j _ => ?_) q9, by omega, rfl, by rw [(hF.same 59 rfl).2]; exact q3, fun hne => ?_⟩
  · rw [(hF.same 57 rfl).2, (hF.same 58 rfl).2, (hF.same 59 rfl).2, (hF.same 61 rfl).2, (hF.same 62 rfl).2]
    exact ⟨rfl, rfl, rfl, rfl, rfl⟩
  · obtain ⟨x1, x2, x3⟩ := q5 hne
    refine ⟨?_, ?_, by rw [(hF.same 61 rfl).2]; exact x3⟩
    · rw [(hF.same 57 rfl).2]
      exact dv_at_fr (Int.le_refl _) nf x1
    · rw [(hF.same 58 rfl).2]
      exact dv_ch_fr (fun j _ => lk j) x2
section
variable {Ω : Type}
/-- what an entry writes -/
def wk_by (E : we_E Ω) (th : Int → rf_N) (AR : Nat → List Int) (q : wk_I) (w : we_A Ω) : we_A Ω := if q.2 = 2 then we_b E [41] w else if q.2 = 1 then we_gv E.1.1 (wd_v th AR (wd_it q.1)) (we_W E (wd_v th AR (wd_it q.1))).1 q.1.2.1 (we_b E [32] w) else (we_W E (wd_v th AR (wd_it q.1))).1 q.1.2.1 w
/-- what the pile writes -/
def wk_al (E : we_E Ω) (th : Int → rf_N) (AR : Nat → List Int) : List wk_I → we_A Ω → we_A Ω
  | [], w => w
  | q :: l, w => wk_al E th AR l (wk_by E th AR q w)
theorem wk_al_app {E : we_E Ω} {th : Int → rf_N} {AR : Nat → List Int} {l : List wk_I} : ∀ {l' : List wk_I} {w : we_A Ω}, wk_al E th AR (l' ++ l) w = wk_al E th AR l (wk_al E th AR l' w)
  | [], _ => rfl
  | _ :: l', _ => wk_al_app (l' := l')
/-- the ARGs as entries -/
def wk_wz (F : rf_N) (c : List (Int × Int)) (L mk : Int) : List wk_I := (vx_el F).map (fun A => (((A, c), L, mk), 1))
theorem wk_al_wz {E : we_E Ω} {th : Int → rf_N} {AR : Nat → List Int} (hg : ∀ m, vx_on (th m)) {c : List (Int × Int)} {L mk : Int} : ∀ {F : rf_N} {w : we_A Ω}, wk_al E th AR (wk_wz F c L mk) w = (we_W E (vx_val th AR F (dv_lk c) L)).2 L w
  | .leaf, _ => rfl
  | .inner j q u F X, w => by
    have ih := wk_al_wz (E := E) (th := th) (AR := AR) hg (c := c) (L := L) (mk := mk) (F := X) (w := wk_by E th AR (((.inner j q () F .leaf, c), L, mk), 1) w)
    show wk_al E th AR (wk_wz X c L mk) (wk_by E th AR (((.inner j q () F .leaf, c), L, mk), 1) w) = _
    rw [ih, vx_val_1 hg]
    exact ((we_w_sb (vx_val_one hg j q u F (dv_lk c) L) L w).2).symm
theorem wk_lam {E : we_E Ω} {th : Int → rf_N} {AR : Nat → List Int} {j : Nat} {x L : Int} {F : rf_N} {c : List (Int × Int)} {w : we_A Ω} : (we_W E (wd_v th AR (rf_n j 0 x F .leaf, dv_lk c, L))).1 L w = (we_W E (wd_v th AR (F, dv_lk ((x, L) :: c), L + 1))).1 (L + 1) (we_b E (92 :: 120 :: (E.1.2.1 L ++ [46])) w) := by
  have e : wd_v th AR (rf_n j 0 x F .leaf, dv_lk c, L) = rf_n 0 0 0 (wd_v th AR (F, dv_lk ((x, L) :: c), L + 1)) .leaf := by
    rw [dv_lk_up]
    rfl
  rw [e]
  exact we_lam _ _ _ _ _ _
theorem wk_var {E : we_E Ω} {th : Int → rf_N} {AR : Nat → List Int} {j : Nat} {h L : Int} {F : rf_N} {c : List (Int × Int)} {w : we_A Ω} : (we_W E (wd_v th AR (rf_n j 2 h F .leaf, dv_lk c, L))).1 L w = (we_W E (vx_val th AR F (dv_lk c) L)).2 L (we_b E (120 :: E.1.2.1 (dv_lk c h)) w) := by
  have e : wd_v th AR (rf_n j 2 h F .leaf, dv_lk c, L) = rf_n 0 2 (dv_lk c h) (vx_val th AR F (dv_lk c) L) .leaf := rfl
  rw [e]
  exact we_var _ _ _ _ _ _
theorem wk_con {E : we_E Ω} {th : Int → rf_N} {AR : Nat → List Int} {j : Nat} {h L : Int} {F : rf_N} {c : List (Int × Int)} {w : we_A Ω} (h0 : 0 ≤ h) : (we_W E (wd_v th AR (rf_n j 1 h F .leaf, dv_lk c, L))).1 L w = (we_W E (vx_val th AR F (dv_lk c) L)).2 L (we_b E (E.1.2.2 h) w) := by
  have e : wd_v th AR (rf_n j 1 h F .leaf, dv_lk c, L) = rf_n 0 1 h (vx_val th AR F (dv_lk c) L) .leaf := rfl
  rw [e]
  exact we_con _ _ _ _ h0 _ _
/-- an ARG: the blank, the brackets where they are needed -/
theorem wk_arg_y {E : we_E Ω} {th : Int → rf_N} {AR : Nat → List Int} {k : dv_K} {w : we_A Ω} (hb : we_bk (wd_v th AR (wd_it k))) : wk_by E th AR (k, 1) w = we_b E [41] ((we_W E (wd_v th AR (wd_it k))).1 k.2.1 (we_b E [32, 40] w)) := by
  have e : we_b E [32, 40] w = we_b E [40] (we_b E [32] w) := we_bs_app [32] [40] w
  rw [e]
  unfold wk_by
  rw [if_neg (show ¬ (1 : Int) = 2 by decide), if_pos rfl]
  show we_g E.1.1 (wz_q (wd_v th AR (wd_it k))) (wz_F (wd_v th AR (wd_it k))) _ _ _ = _
  unfold we_g
  unfold we_bk at hb
  rw [if_pos hb]
  rfl
theorem wk_arg_n {E : we_E Ω} {th : Int → rf_N} {AR : Nat → List Int} {k : dv_K} {w : we_A Ω} (hb : ¬ we_bk (wd_v th AR (wd_it k))) : wk_by E th AR (k, 1) w = (we_W E (wd_v th AR (wd_it k))).1 k.2.1 (we_b E [32] w) := by
  unfold wk_by
  rw [if_neg (show ¬ (1 : Int) = 2 by decide), if_pos rfl]
  show we_g E.1.1 (wz_q (wd_v th AR (wd_it k))) (wz_F (wd_v th AR (wd_it k))) _ _ _ = _
  unfold we_g
  unfold we_bk at hb
  rw [if_neg hb]
end
