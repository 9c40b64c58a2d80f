/-! ===== the bytes of the whole text: items ===== -/
abbrev vl_I : Type := (Int × Int × qx_T) × (px_N × px_N)
def vl_TX (K : Nat → Int) : List vl_I → Int → Prop
  | [], a => K a.toNat = 0
  | q :: l, a => ∃ c, px_IT K a q c ∧ vl_TX K l c
/-- the trees of the equations -/
def vl_tx (SN : Int → Int → Prop) (TV : Int → qx_T → Prop) (AR : Nat → List Int) : List vl_I → List (Int × qx_T) → List (Int × qx_T) → vw_L → Prop
  | [], _, _, l => l = []
  | q :: r, C, M, l => (q.1.1 = 3 ∧ vl_tx SN TV AR r (C ++ [q.1.2]) M l) ∨ (q.1.1 = 4 ∧ vl_tx SN TV AR r C (M ++ [q.1.2]) l) ∨ (q.1.1 = 5 ∧ ∃ L R l' x, l = (L, R) :: l' ∧ (vl_tm SN C M TV AR q.2.1).1 L [] [] x ∧ (vl_tm SN C M TV AR q.2.2).1 R [] [] x ∧ vl_tx SN TV AR r C M l')
/-- all unknowns, all equations -/
def vl_mf : List vl_I → List (Int × qx_T) → List (Int × qx_T)
  | [], M => M
  | q :: r, M => if q.1.1 = 4 then vl_mf r (M ++ [q.1.2]) else vl_mf r M
def vl_ne : List vl_I → Nat
  | [] => 0
  | q :: r => (if q.1.1 = 5 then 1 else 0) + vl_ne r
theorem vl_mf_at : ∀ {l : List vl_I} {M : List (Int × qx_T)} {i : Nat} {q : Int × qx_T}, M[i]? = some q → (vl_mf l M)[i]? = some q
  | [], _, _, _, h => h
  | p :: r, M, i, q, h => by
    show (if p.1.1 = 4 then vl_mf r (M ++ [p.1.2]) else vl_mf r M)[i]? = some q
    by_cases c : p.1.1 = 4
    · rw [if_pos c]
      refine vl_mf_at ?_
      rw [List.getElem?_append_left (List.getElem?_eq_some_iff.mp h).1]
      exact h
    · rw [if_neg c]
      exact vl_mf_at h
def vl_wl (AR : Nat → List Int) (D : List Int) : vw_L → Nat
  | [] => 0
  | q :: l => vl_w AR D q.1 [] + vl_w AR D q.2 [] + vl_wl AR D l
theorem vl_wl_cl {AR : Nat → List Int} {D : List Int} : ∀ {l : vw_L}, vl_wl AR D l = vx_ls (fun m => 2 * vw_cl AR true m l + 6 * vw_cl AR false m l) D
  | [] => by
    have : ∀ l : List Int, vx_ls (fun m => 2 * vw_cl AR true m [] + 6 * vw_cl AR false m []) l = 0 := fun l => by
      induction l with
      | nil => rfl
      | cons x l ih =>
        show 0 + vx_ls _ l = 0
        rw [ih]
    exact (this D).symm
  | q :: l => by
    show vl_w AR D q.1 [] + vl_w AR D q.2 [] + vl_wl AR D l = _
    rw [vl_wl_cl (l := l)]
    unfold vl_w
    rw [← vx_ls_add, ← vx_ls_add]
    congr 1
    funext m
    show _ = 2 * (vw_cn AR true m q.1 [] + vw_cn AR true m q.2 [] + vw_cl AR true m l) + 6 * (vw_cn AR false m q.1 [] + vw_cn AR false m q.2 [] + vw_cl AR false m l)
    omega
/-- what is declared from the j-th unknown on -/
def vl_ol (o : Int → Nat) (D : List Int) (j : Nat) : Nat := vx_ls (fun m => if (j : Int) ≤ m then o m else 0) D
theorem vl_ol_s {o : Int → Nat} {D : List Int} (hD : D.Nodup) (j : Nat) : vl_ol o D j ≤ vl_ol o D (j + 1) + o (j : Int) := by
  have h1 : vl_ol o D j ≤ vx_ls (fun m => (if ((j + 1 : Nat) : Int) ≤ m then o m else 0) + (if m = (j : Int) then o (j : Int) else 0)) D := by
    refine vx_ls_le (fun m _ => ?_)
    by_cases c1 : (j : Int) ≤ m
    · by_cases c2 : m = (j : Int)
      · rw [if_pos c1, if_pos c2, c2]
        omega
      · rw [if_pos c1, if_pos (by omega)]
        omega
    · rw [if_neg c1]
      omega
  rw [vx_ls_add] at h1
  have h2 := vx_ls_one (g := fun m => if m = (j : Int) then o (j : Int) else 0) (h := (j : Int)) (fun m hm => if_neg hm) hD
  try dsimp only at h2
  rw [if_pos rfl] at h2
  unfold vl_ol at *
  omega
theorem vl_ol_0 {o : Int → Nat} : ∀ {D : List Int} {j : Nat}, (∀ m ∈ D, m < (j : Int)) → vl_ol o D j = 0
  | [], _, _ => rfl
  | x :: D, j, h => by
    have ih := vl_ol_0 (o := o) (D := D) (j := j) (fun m hm => h m (List.mem_cons_of_mem _ hm))
    have hx := h x List.mem_cons_self
    show (if (j : Int) ≤ x then o x else 0) + vl_ol o D j = 0
    rw [ih, if_neg (by omega)]
section
variable {SN : Int → Int → Prop} {TV : Int → qx_T → Prop} {AR : Nat → List Int} {D : List Int} {K : Nat → Int} {P : Nat → Nat}
/-- one side: where it begins -/
theorem vl_side (hD : D.Nodup) (hP : vl_P K P) {C M : List (Int × qx_T)} (hC : ∀ q ∈ C, qx_at q.2 ≤ 5) (hM : ∀ q ∈ M, qx_at q.2 ≤ 5) {f : Nat} {a c : Int} {t : px_N} {W : rf_N} {x : qx_T} (ha : 0 ≤ a) (h : px_TM K f a t c) (hv : (vl_tm SN C M TV AR t).1 W [] [] x) (hK : K a.toNat ≠ 2) : vl_w AR D W [] + P a.toNat ≤ P c.toNat + 2 ∧ ∀ (i : Nat) (kk hh : Int) (G : rf_N), kk ≠ 0 → kk ≠ 3 → vw_su (rf_n i kk hh G .leaf) W → (∀ m ∈ D, ¬ vx_mt m (rf_n i kk hh G .leaf)) → vl_w AR D W [] + vw_np (rf_n i kk hh G .leaf) + P a.toNat ≤ P c.toNat + 4 := by
  cases f with
  | zero => exact h.elim
  | succ f =>
    rcases h with ⟨k1, k2, k3, y, e, h1, k4, u, h2, ht⟩ | ⟨k1, _⟩
    · subst ht
      rcases hv with ⟨_, j, v, F, B, v1, ⟨_, _, _, v2⟩, v3, v4⟩ | ⟨g0, _⟩
      · have j1 := vl_P1 hP ha k1 (by decide) (b := a + 1) rfl
        obtain ⟨t1, t2⟩ := px_TY_P hP (by omega) h1
        have j2 := vl_P1 hP (a := a + 1) (by omega) k2 (by decide) (b := a + 2) (by omega)
        have j3 := vl_P1 hP (a := a + 2) (by omega) k3 (by decide) (b := a + 3) (by omega)
        have j4 := vl_P1 hP (a := e) (by omega) k4 (by decide) (b := e + 1) rfl
        obtain ⟨_, b4, _, b8⟩ := vl_bytes hD hP hC hM (Γ := [(a + 1, y)]) (fun q hq => by
          rw [List.mem_singleton.mp hq]
          exact v2) (by omega) h2 v3 trivial
        subst v1
        rw [vl_w_lam]
        have := b4 [v]
        refine ⟨by omega, fun i kk hh G kk0 kk3 hs hm => ?_⟩
        rcases hs with hs | ⟨_, hs⟩ | hs
        · injection hs with _ hs2
          exact absurd (Prod.mk.inj hs2).1 kk0
        · have := b8 i kk hh G kk0 kk3 hs hm [v]
          omega
        · exact hs.elim
      · exact absurd rfl g0
    · exact absurd k1 hK
theorem vl_text (hD : D.Nodup) (hP : vl_P5 K P) {o : Int → Nat} : ∀ {l : List vl_I} {a : Int} {C M : List (Int × qx_T)} {e0 : Nat} {tl : vw_L}, 0 ≤ a → vl_TX K l a → px_ck SN l C M e0 → vl_tx SN TV AR l C M tl → (∀ q ∈ C, qx_at q.2 ≤ 5) → (∀ q ∈ M, qx_at q.2 ≤ 5) → (∀ (m : Nat) q, (vl_mf l M)[m]? = some q → o (m : Int) ≤ 8 ∨ (2 ≤ qx_at q.2 ∧ o (m : Int) ≤ 10)) → (∀ m ∈ D, m < ((vl_mf l M).length : Int)) → ∃ z : Int, (0 ≤ z ∧ K z.toNat = 0) ∧ e0 + vl_ne l ≤ max 4 e0 ∧ (vl_ol o D M.length + vl_wl AR D tl + P a.toNat ≤ P z.toNat + vl_ne l) ∧ (vw_H tl + P a.toNat ≤ P z.toNat + 8 * vl_ne l) ∧ (∀ q ∈ tl, (vx_lh q.1 ≤ 67 ∧ vx_hh q.1 ≤ 26) ∧ (vx_lh q.2 ≤ 67 ∧ vx_hh q.2 ≤ 26)) ∧ ∀ (i : Nat) (kk hh : Int) (G : rf_N), kk ≠ 0 → kk ≠ 3 → vw_M tl (rf_n i kk hh G .leaf) → (∀ m ∈ D, ¬ vx_mt m (rf_n i kk hh G .leaf)) → vl_ol o D M.length + vl_wl AR D tl + vw_np (rf_n i kk hh G .leaf) + P a.toNat ≤ P z.toNat + vl_ne l + 2
  | [], a, C, M, e0, tl, ha, h, _, ht, _, _, _, hm => by
    have ht' : tl = [] := ht
    subst ht'
    have h0 := vl_ol_0 (o := o) (D := D) (j := M.length) hm
    have z1 : vl_wl AR D [] = 0 := rfl
    have z2 : vw_H [] = 0 := rfl
    have z3 : vl_ne [] = 0 := rfl
    refine ⟨a, ⟨ha, h⟩, by omega, by omega, by omega, fun q hq => absurd hq List.not_mem_nil, fun i kk hh G _ _ ⟨q, hq, _⟩ => absurd hq List.not_mem_nil⟩
  | q :: l, a, C, M, e0, tl, ha, ⟨c, hi, hx⟩, hck, ht, hC, hM, ho, hm => by
    obtain ⟨hp, hp5, hp4⟩ := hP
    rcases hi with ⟨k1, k2, k3, x, e, h1, k4, k5, hq⟩ | ⟨k1, t, e, u, g, h1, k2, h2, k3, k4, hq⟩
    · obtain ⟨t1, t2⟩ := px_TY_P hp (by omega) h1
      have j1 := vl_P1 hp (a := a) ha rfl (by omega) (b := a + 1) rfl
      have j2 := vl_P1 hp (a := a + 1) (by omega) k2 (by decide) (b := a + 2) (by omega)
      have j3 := vl_P1 hp (a := a + 2) (by omega) k3 (by decide) (b := a + 3) (by omega)
      have j4 := vl_P1 hp (a := e) (by omega) k4 (by decide) k5
      rcases k1 with k1 | k1
      · have q1 : q.1.1 = 3 := by rw [hq]; exact k1
        rcases hck with ⟨_, _, _, _, c5, c6⟩ | ⟨z, _⟩ | ⟨z, _⟩
        · rcases ht with ⟨_, ht⟩ | ⟨z, _⟩ | ⟨z, _⟩
          · have em : vl_mf (q :: l) M = vl_mf l M := by
              show (if q.1.1 = 4 then _ else _) = _
              rw [if_neg (by omega)]
            have en : vl_ne (q :: l) = vl_ne l := by
              show (if q.1.1 = 5 then 1 else 0) + vl_ne l = _
              rw [if_neg (by omega)]
              omega
            rw [em] at ho hm
            obtain ⟨z, z1, z2, z3, z4, z5, z6⟩ := vl_text hD ⟨hp, hp5, hp4⟩ (by omega) hx c6 ht (fun p hp' => by
              rcases List.mem_append.mp hp' with hp' | hp'
              · exact hC p hp'
              · rw [List.mem_singleton.mp hp']
                exact c5) hM ho hm
            refine ⟨z, z1, by omega, by omega, by omega, z5, fun i kk hh G kk0 kk3 hs hmm => ?_⟩
            have := z6 i kk hh G kk0 kk3 hs hmm
            omega
          · omega
          · omega
        · omega
        · omega
      · have q1 : q.1.1 = 4 := by rw [hq]; exact k1
        rcases hck with ⟨z, _⟩ | ⟨_, _, _, _, c5, c6⟩ | ⟨z, _⟩
        · omega
        · rcases ht with ⟨z, _⟩ | ⟨_, ht⟩ | ⟨z, _⟩
          · omega
          · have em : vl_mf (q :: l) M = vl_mf l (M ++ [q.1.2]) := by
              show (if q.1.1 = 4 then _ else _) = _
              rw [if_pos q1]
            have en : vl_ne (q :: l) = vl_ne l := by
              show (if q.1.1 = 5 then 1 else 0) + vl_ne l = _
              rw [if_neg (by omega)]
              omega
            rw [em] at ho hm
            have lM : (M ++ [q.1.2]).length = M.length + 1 := by rw [List.length_append, List.length_singleton]
            obtain ⟨z, z1, z2, z3, z4, z5, z6⟩ := vl_text hD ⟨hp, hp5, hp4⟩ (by omega) hx c6 ht hC (fun p hp' => by
              rcases List.mem_append.mp hp' with hp' | hp'
              · exact hM p hp'
              · rw [List.mem_singleton.mp hp']
                exact c5) ho hm
            have os := vl_ol_s (o := o) hD M.length
            rw [lM] at z3 z6
            have i4 := hp4 a.toNat k1 (by rw [← show (a + 1).toNat = a.toNat + 1 by omega]; exact k2)
            rw [← show (a + 1).toNat = a.toNat + 1 by omega] at i4
            have ox := ho M.length q.1.2 (vl_mf_at (by rw [List.getElem?_append_right (Nat.le_refl _), Nat.sub_self]; rfl))
            have ex : q.1.2.2 = x := by rw [hq]
            have oo : o (M.length : Int) + P a.toNat ≤ P c.toNat := by
              rcases ox with ox | ⟨ox1, ox2⟩
              · omega
              · have := px_TY_P2 hp (by omega) h1 (by rw [← ex]; exact ox1)
                omega
            refine ⟨z, z1, by omega, by omega, by omega, z5, fun i kk hh G kk0 kk3 hs hmm => ?_⟩
            have := z6 i kk hh G kk0 kk3 hs hmm
            omega
          · omega
        · omega
    · have q1 : q.1.1 = 5 := by rw [hq]
      have q2 : q.2.1 = t ∧ q.2.2 = u := by rw [hq]; exact ⟨rfl, rfl⟩
      rcases hck with ⟨z, _⟩ | ⟨z, _⟩ | ⟨_, c2, _, c4⟩
      · omega
      · omega
      · rcases ht with ⟨z, _⟩ | ⟨z, _⟩ | ⟨_, L, R, l', x, el, v1, v2, ht⟩
        · omega
        · omega
        · rw [q2.1] at v1
          rw [q2.2] at v2
          have em : vl_mf (q :: l) M = vl_mf l M := by
            show (if q.1.1 = 4 then _ else _) = _
            rw [if_neg (by omega)]
          have en : vl_ne (q :: l) = vl_ne l + 1 := by
            show (if q.1.1 = 5 then 1 else 0) + vl_ne l = _
            rw [if_pos q1]
            omega
          rw [em] at ho hm
          obtain ⟨p1, p2⟩ := px_TM_P hp (by omega) h1
          obtain ⟨p3, p4⟩ := px_TM_P hp (by omega) h2
          have j2 := vl_P1 hp (a := e) (by omega) k2 (by decide) (b := e + 1) rfl
          have j3 := vl_P1 hp (a := g) (by omega) k3 (by decide) k4
          obtain ⟨i5, i5'⟩ := hp5 a.toNat k1
          rw [← show (a + 1).toNat = a.toNat + 1 by omega] at i5 i5'
          obtain ⟨z, z1, z2, z3, z4, z5, z6⟩ := vl_text hD ⟨hp, hp5, hp4⟩ (by omega) hx c4 ht hC hM ho hm
          obtain ⟨⟨a1, _, a2⟩, a3, ⟨a4, _, _⟩, a5⟩ := vl_bytes hD hp hC hM (Γ := []) (fun _ h => absurd h List.not_mem_nil) (by omega) h1 v1 trivial
          obtain ⟨⟨b1, _, b2⟩, b3, ⟨b4, _, _⟩, b5⟩ := vl_bytes hD hp hC hM (Γ := []) (fun _ h => absurd h List.not_mem_nil) (by omega) h2 v2 trivial
          have a3' := a3 []
          have b3' := b3 []
          subst el
          have eW : vl_wl AR D ((L, R) :: l') = vl_w AR D L [] + vl_w AR D R [] + vl_wl AR D l' := rfl
          have eH : vw_H ((L, R) :: l') = vw_np L + vw_np R + vw_H l' := rfl
          have hL : ∀ w d : Nat, (K (a + 1).toNat ≠ 2 → w + P (a + 1).toNat ≤ P e.toNat + d + 2) → w + P (a + 1).toNat ≤ P e.toNat + d + 3 → w + P a.toNat ≤ P e.toNat + d := fun w d h1 h2 => by
            by_cases kn : K (a + 1).toNat = 2
            · have := i5' kn
              omega
            · have := h1 kn
              omega
          have w1 := hL (vl_w AR D L []) 0 (fun kn => (vl_side hD hp hC hM (by omega) h1 v1 kn).1) a3'
          refine ⟨z, z1, by omega, by omega, by omega, fun q hq => ?_, fun i kk hh G kk0 kk3 hs hmm => ?_⟩
          · rcases List.mem_cons.mp hq with rfl | hq
            · show (vx_lh L ≤ 67 ∧ vx_hh L ≤ 26) ∧ (vx_lh R ≤ 67 ∧ vx_hh R ≤ 26)
              exact ⟨⟨by omega, by omega⟩, ⟨by omega, by omega⟩⟩
            · exact z5 q hq
          · obtain ⟨p, hp', hs⟩ := hs
            rcases List.mem_cons.mp hp' with rfl | hp'
            · rcases hs with hs | hs
              · have w2 := hL (vl_w AR D L [] + vw_np (rf_n i kk hh G .leaf)) 2 (fun kn => (vl_side hD hp hC hM (by omega) h1 v1 kn).2 i kk hh G kk0 kk3 hs hmm) (a5 i kk hh G kk0 kk3 hs hmm [])
                omega
              · have := b5 i kk hh G kk0 kk3 hs hmm []
                omega
            · have := z6 i kk hh G kk0 kk3 ⟨p, hp', hs⟩ hmm
              omega
end
