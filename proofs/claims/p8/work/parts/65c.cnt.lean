/-! ===== how many turns: by the calls of the text ===== -/
/-- heads and calls -/
def vw_np : rf_N → Nat
  | .leaf => 0
  | .inner _ q _ F X => (if q.1 = 3 then 1 else if q.1 = 0 then vw_np F else 1 + vw_np F) + vw_np X
theorem vw_np_in (j : Nat) (q : Int × Int) (u : Unit) (F X : rf_N) : vw_np (.inner j q u F X) = (if q.1 = 3 then 1 else if q.1 = 0 then vw_np F else 1 + vw_np F) + vw_np X := rfl
/-- calls of m, bare or not -/
def vw_cn (AR : Nat → List Int) (b : Bool) (m : Int) : rf_N → List Int → Nat
  | .leaf, _ => 0
  | .inner j q _ F X, ls => (if q.1 = 3 then (if q.2 = m ∧ vw_br AR ls j = b then 1 else 0) else if q.1 = 0 then vw_cn AR b m F (q.2 :: ls) else vw_cn AR b m F []) + vw_cn AR b m X []
theorem vw_cn_in (AR : Nat → List Int) (b : Bool) (m : Int) (j : Nat) (q : Int × Int) (u : Unit) (F X : rf_N) (ls : List Int) : vw_cn AR b m (.inner j q u F X) ls = (if q.1 = 3 then (if q.2 = m ∧ vw_br AR ls j = b then 1 else 0) else if q.1 = 0 then vw_cn AR b m F (q.2 :: ls) else vw_cn AR b m F []) + vw_cn AR b m X [] := rfl
theorem vx_ls_add {f g : Int → Nat} : ∀ {l : List Int}, vx_ls (fun x => f x + g x) l = vx_ls f l + vx_ls g l
  | [] => rfl
  | x :: l => by
    show f x + g x + vx_ls (fun x => f x + g x) l = f x + vx_ls f l + (g x + vx_ls g l)
    rw [vx_ls_add]
    omega
theorem vx_ls_mem {f : Int → Nat} {x : Int} : ∀ {l : List Int}, x ∈ l → f x ≤ vx_ls f l
  | [], h => absurd h List.not_mem_nil
  | y :: l, h => by
    show f x ≤ f y + vx_ls f l
    rcases List.mem_cons.mp h with h | h
    · rw [h]
      omega
    · have := vx_ls_mem (f := f) h
      omega
theorem vx_ls_le {f g : Int → Nat} : ∀ {l : List Int}, (∀ x ∈ l, f x ≤ g x) → vx_ls f l ≤ vx_ls g l
  | [], _ => Nat.le_refl _
  | y :: l, h => by
    have h1 := h y List.mem_cons_self
    have h2 := vx_ls_le (f := f) (g := g) (l := l) (fun x hx => h x (List.mem_cons_of_mem _ hx))
    show f y + vx_ls f l ≤ g y + vx_ls g l
    omega
theorem vw_tr_cn {AR : Nat → List Int} {gb ge : Int → Nat} {us : List Int} : ∀ (A : rf_N) (ls : List Int), (∀ m, vx_mt m A → m ∈ us) → vw_tr AR gb ge A ls ≤ vw_np A + vx_ls (fun m => vw_cn AR true m A ls * gb m + vw_cn AR false m A ls * ge m) us
  | .leaf, _, _ => Nat.zero_le _
  | .inner j q u F X, ls, h => by
    have hX := vw_tr_cn (AR := AR) (gb := gb) (ge := ge) (us := us) X [] (fun m hm => h m (Or.inr (Or.inr hm)))
    have hF : q.1 ≠ 3 → ∀ ls, vw_tr AR gb ge F ls ≤ vw_np F + vx_ls (fun m => vw_cn AR true m F ls * gb m + vw_cn AR false m F ls * ge m) us := fun c3 ls => vw_tr_cn F ls (fun m hm => h m (Or.inr (Or.inl ⟨c3, hm⟩)))
    have sp : ∀ (a b : Int → Nat), vx_ls (fun m => (a m + vw_cn AR true m X []) * gb m + (b m + vw_cn AR false m X []) * ge m) us = vx_ls (fun m => a m * gb m + b m * ge m) us + vx_ls (fun m => vw_cn AR true m X [] * gb m + vw_cn AR false m X [] * ge m) us := fun a b => by
      rw [← vx_ls_add]
      congr 1
      funext m
      rw [Nat.add_mul, Nat.add_mul]
      omega
    rw [vw_tr_in, vw_np_in]
    by_cases c3 : q.1 = 3
    · have e : (fun m => vw_cn AR true m (.inner j q u F X) ls * gb m + vw_cn AR false m (.inner j q u F X) ls * ge m) = (fun m => ((if q.2 = m ∧ vw_br AR ls j = true then 1 else 0) + vw_cn AR true m X []) * gb m + ((if q.2 = m ∧ vw_br AR ls j = false then 1 else 0) + vw_cn AR false m X []) * ge m) := by
        funext m
        rw [vw_cn_in, vw_cn_in, if_pos c3, if_pos c3]
      rw [e, sp, if_pos c3, if_pos c3]
      have hm := vx_ls_mem (f := fun m => (if q.2 = m ∧ vw_br AR ls j = true then 1 else 0) * gb m + (if q.2 = m ∧ vw_br AR ls j = false then 1 else 0) * ge m) (h q.2 (Or.inl ⟨c3, rfl⟩))
      try dsimp only at hm
      by_cases cb : vw_br AR ls j = true
      · rw [if_pos cb]
        rw [if_pos ⟨rfl, cb⟩, Nat.one_mul] at hm
        omega
      · rw [if_neg cb]
        have cb' : vw_br AR ls j = false := by
          cases q : vw_br AR ls j with
          | true => exact absurd q cb
          | false => rfl
        rw [if_pos (show q.2 = q.2 ∧ vw_br AR ls j = false from ⟨rfl, cb'⟩), Nat.one_mul] at hm
        omega
    · rw [if_neg c3, if_neg c3]
      by_cases c0 : q.1 = 0
      · have e : (fun m => vw_cn AR true m (.inner j q u F X) ls * gb m + vw_cn AR false m (.inner j q u F X) ls * ge m) = (fun m => (vw_cn AR true m F (q.2 :: ls) + vw_cn AR true m X []) * gb m + (vw_cn AR false m F (q.2 :: ls) + vw_cn AR false m X []) * ge m) := by
          funext m
          rw [vw_cn_in, vw_cn_in, if_neg c3, if_neg c3, if_pos c0, if_pos c0]
        rw [e, sp, if_pos c0, if_pos c0]
        have := hF c3 (q.2 :: ls)
        omega
      · have e : (fun m => vw_cn AR true m (.inner j q u F X) ls * gb m + vw_cn AR false m (.inner j q u F X) ls * ge m) = (fun m => (vw_cn AR true m F [] + vw_cn AR true m X []) * gb m + (vw_cn AR false m F [] + vw_cn AR false m X []) * ge m) := by
          funext m
          rw [vw_cn_in, vw_cn_in, if_neg c3, if_neg c3, if_neg c0, if_neg c0]
        rw [e, sp, if_neg c0, if_neg c0]
        have := hF c3 []
        omega
/-- a part has no more than the whole -/
theorem vw_cn_su {AR : Nat → List Int} {b : Bool} {m : Int} {i : Nat} {k h : Int} {G : rf_N} (k0 : k ≠ 0) (k3 : k ≠ 3) : ∀ {T : rf_N} (ls ls' : List Int), vw_su (rf_n i k h G .leaf) T → vw_cn AR b m (rf_n i k h G .leaf) ls' ≤ vw_cn AR b m T ls
  | .leaf, _, _, h => h.elim
  | .inner j q u F X, ls, ls', h => by
    rw [vw_cn_in AR b m j q u F X ls]
    rcases h with h | ⟨c3, h⟩ | h
    · injection h with h1 h2 h3 h4
      have e1 : q.1 = k := by rw [← h2]
      rw [vw_cn_in, if_neg k3, if_neg k0, if_neg (by rw [e1]; exact k3), if_neg (by rw [e1]; exact k0), ← h4]
      have : vw_cn AR b m .leaf [] = 0 := rfl
      omega
    · rw [if_neg c3]
      by_cases c0 : q.1 = 0
      · rw [if_pos c0]
        have := vw_cn_su (AR := AR) (b := b) (m := m) k0 k3 (q.2 :: ls) ls' h
        omega
      · rw [if_neg c0]
        have := vw_cn_su (AR := AR) (b := b) (m := m) k0 k3 [] ls' h
        omega
    · have := vw_cn_su (AR := AR) (b := b) (m := m) k0 k3 [] ls' h
      omega
/-- calls of m in all sides -/
def vw_cl (AR : Nat → List Int) (b : Bool) (m : Int) : vw_L → Nat
  | [] => 0
  | q :: l => vw_cn AR b m q.1 [] + vw_cn AR b m q.2 [] + vw_cl AR b m l
theorem vw_cl_mem {AR : Nat → List Int} {b : Bool} {m : Int} {q : rf_N × rf_N} : ∀ {l : vw_L}, q ∈ l → vw_cn AR b m q.1 [] + vw_cn AR b m q.2 [] ≤ vw_cl AR b m l
  | [], h => absurd h List.not_mem_nil
  | p :: l, h => by
    show _ ≤ vw_cn AR b m p.1 [] + vw_cn AR b m p.2 [] + vw_cl AR b m l
    rcases List.mem_cons.mp h with h | h
    · rw [h]
      omega
    · have := vw_cl_mem (AR := AR) (b := b) (m := m) h
      omega
def vw_H : vw_L → Nat
  | [] => 0
  | q :: l => vw_np q.1 + vw_np q.2 + vw_H l
theorem vx_mt_zz {th : Int → rf_N} {m : Int} : ∀ {A : rf_N}, vx_mt m A → vx_sz (th m) ≤ vx_zz th A
  | .leaf, h => h.elim
  | .inner j q u F X, h => by
    rw [vx_zz_in]
    rcases h with ⟨h1, h2⟩ | ⟨h1, h2⟩ | h
    · rw [if_pos h1, h2]
      omega
    · rw [if_neg h1]
      have := vx_mt_zz (th := th) h2
      omega
    · have := vx_mt_zz (th := th) h
      omega
/-- what an unknown is given: a part of the text, its calls are smaller -/
theorem vw_bd_M {S : vx_S} {l : vw_L} {th : Int → rf_N} (hB : vw_B l S) (hS : vx_So S th) (m : Int) : vw_bd S m = .leaf ∨ ∃ (j : Nat) (k h : Int) (F : rf_N), vw_bd S m = rf_n j k h F .leaf ∧ k ≠ 3 ∧ vw_M l (rf_n j k h F .leaf) ∧ ∀ m', vx_mt m' (rf_n j k h F .leaf) → vx_sz (th m') < vx_sz (th m) := by
  rcases vw_bd_or S m with h | ⟨⟨w, B, e, h1, h2⟩, j, k, h, F, h3, h4⟩
  · exact Or.inl h
  · refine Or.inr ⟨j, k, h, F, h3, h4, ?_, fun m' hm => ?_⟩
    · have q : ∃ x ex, S.2.2.2.1 x = some (rf_n j k h F .leaf, ex) := by
        rw [h3] at h2
        rcases vw_wy_end h2 with q | ⟨x, ex, q⟩
        · exact ⟨m, e, by rw [h1, q]⟩
        · exact ⟨x, ex, q⟩
      obtain ⟨x, ex, q⟩ := q
      rcases hB x _ ex q with ⟨i, y, G, z⟩ | z
      · injection z with _ z2
        exact absurd (Prod.mk.inj z2).1 h4
      · exact z
    · have e1 := vw_wy_zz hS h2
      have e2 := vx_zz_body hS h1
      rw [h3, vx_zz_in, if_neg h4] at e1
      rcases hm with ⟨c3, _⟩ | ⟨_, hm⟩ | hm
      · exact absurd c3 h4
      · have := vx_mt_zz (th := th) hm
        omega
      · exact hm.elim
/-- each one's calls come behind it -/
def vw_cd (bd : Int → rf_N) : List Int → Prop
  | [] => True
  | m :: us => (∀ m', vx_mt m' (bd m) → m' ∈ us) ∧ vw_cd bd us
theorem vw_cd_sort {bd : Int → rf_N} {sz : Int → Nat} {full : Int → Prop} (hb : ∀ m m', vx_mt m' (bd m) → sz m' < sz m ∧ full m') : ∀ {us : List Int}, (∀ x, full x → x ∈ us ∨ ∀ y ∈ us, sz y ≤ sz x) → us.Pairwise (fun a b => sz b ≤ sz a) → vw_cd bd us
  | [], _, _ => trivial
  | m :: us, h, hp => by
    obtain ⟨p1, p2⟩ := List.pairwise_cons.mp hp
    refine ⟨fun m' hm => ?_, vw_cd_sort hb (fun x hx => ?_) p2⟩
    · obtain ⟨a, b⟩ := hb m m' hm
      rcases h m' b with q | q
      · rcases List.mem_cons.mp q with q | q
        · rw [q] at a
          exact absurd a (Nat.lt_irrefl _)
        · exact q
      · have := q m List.mem_cons_self
        omega
    · rcases h x hx with q | q
      · rcases List.mem_cons.mp q with q | q
        · rw [q]
          exact Or.inr p1
        · exact Or.inl q
      · exact Or.inr (fun y hy => q y (List.mem_cons_of_mem _ hy))
theorem vw_P {bd : Int → rf_N} {AR : Nat → List Int} {c e : Int → Nat} (hc : ∀ m m', vw_cn AR true m' (bd m) [] ≤ c m' ∧ vw_cn AR false m' (bd m) [] ≤ e m') : ∀ {us : List Int}, vw_cd bd us → ∀ T, vx_ls (fun m => c m * vw bd AR (T - 2) (bd m) [] + e m * vw bd AR (T - 1) (bd m) []) us ≤ vz_P (us.map (fun m => (c m, e m, vw_np (bd m)))) T
  | [], _, _ => Nat.zero_le _
  | m :: us, ⟨h1, h2⟩, T => by
    have ih := fun T => vw_P hc h2 T
    have key : ∀ T', vw bd AR T' (bd m) [] ≤ (if T' = 0 then 0 else vw_np (bd m) + vz_P (us.map (fun m => (c m, e m, vw_np (bd m)))) T') := fun T' => by
      cases T' with
      | zero =>
        rw [vw_0]
        exact Nat.zero_le _
      | succ t =>
        rw [if_neg (by omega), vw_s]
        refine Nat.le_trans (vw_tr_cn (us := us) (bd m) [] h1) (Nat.add_le_add_left (Nat.le_trans (vx_ls_le (fun x hx => ?_)) (ih (t + 1))) _)
        obtain ⟨a, b⟩ := hc m x
        have a1 := Nat.mul_le_mul_right (vw bd AR (t - 1) (bd x) []) a
        have b1 := Nat.mul_le_mul_right (vw bd AR t (bd x) []) b
        rw [show t + 1 - 2 = t - 1 by omega, show t + 1 - 1 = t by omega]
        omega
    have k1 := Nat.mul_le_mul_left (c m) (key (T - 2))
    have k2 := Nat.mul_le_mul_left (e m) (key (T - 1))
    have k3 := ih T
    show c m * vw bd AR (T - 2) (bd m) [] + e m * vw bd AR (T - 1) (bd m) [] + vx_ls _ us ≤ vz_P (us.map (fun m => (c m, e m, vw_np (bd m)))) T + c m * (if T - 2 = 0 then 0 else vw_np (bd m) + vz_P (us.map (fun m => (c m, e m, vw_np (bd m)))) (T - 2)) + e m * (if T - 1 = 0 then 0 else vw_np (bd m) + vz_P (us.map (fun m => (c m, e m, vw_np (bd m)))) (T - 1))
    omega
theorem vw_F_le {S : vx_S} {us : List Int} : ∀ {l : vw_L}, (∀ q ∈ l, ∀ m, vx_mt m q.1 ∨ vx_mt m q.2 → m ∈ us) → vw_F S l ≤ vw_H l + vx_ls (fun m => vw_cl S.2.2.2.2 true m l * vw (vw_bd S) S.2.2.2.2 4 (vw_bd S m) [] + vw_cl S.2.2.2.2 false m l * vw (vw_bd S) S.2.2.2.2 5 (vw_bd S m) []) us
  | [], _ => Nat.zero_le _
  | q :: l, h => by
    have ih := vw_F_le (S := S) (us := us) (l := l) (fun p hp => h p (List.mem_cons_of_mem _ hp))
    have h1 := vw_tr_cn (AR := S.2.2.2.2) (gb := fun m => vw (vw_bd S) S.2.2.2.2 4 (vw_bd S m) []) (ge := fun m => vw (vw_bd S) S.2.2.2.2 5 (vw_bd S m) []) (us := us) q.1 [] (fun m hm => h q List.mem_cons_self m (Or.inl hm))
    have h2 := vw_tr_cn (AR := S.2.2.2.2) (gb := fun m => vw (vw_bd S) S.2.2.2.2 4 (vw_bd S m) []) (ge := fun m => vw (vw_bd S) S.2.2.2.2 5 (vw_bd S m) []) (us := us) q.2 [] (fun m hm => h q List.mem_cons_self m (Or.inr hm))
    have e : (fun m => vw_cl S.2.2.2.2 true m (q :: l) * vw (vw_bd S) S.2.2.2.2 4 (vw_bd S m) [] + vw_cl S.2.2.2.2 false m (q :: l) * vw (vw_bd S) S.2.2.2.2 5 (vw_bd S m) []) = (fun m => (vw_cn S.2.2.2.2 true m q.1 [] * vw (vw_bd S) S.2.2.2.2 4 (vw_bd S m) [] + vw_cn S.2.2.2.2 false m q.1 [] * vw (vw_bd S) S.2.2.2.2 5 (vw_bd S m) []) + (vw_cn S.2.2.2.2 true m q.2 [] * vw (vw_bd S) S.2.2.2.2 4 (vw_bd S m) [] + vw_cn S.2.2.2.2 false m q.2 [] * vw (vw_bd S) S.2.2.2.2 5 (vw_bd S m) []) + (vw_cl S.2.2.2.2 true m l * vw (vw_bd S) S.2.2.2.2 4 (vw_bd S m) [] + vw_cl S.2.2.2.2 false m l * vw (vw_bd S) S.2.2.2.2 5 (vw_bd S m) [])) := by
      funext m
      show (vw_cn S.2.2.2.2 true m q.1 [] + vw_cn S.2.2.2.2 true m q.2 [] + vw_cl S.2.2.2.2 true m l) * _ + (vw_cn S.2.2.2.2 false m q.1 [] + vw_cn S.2.2.2.2 false m q.2 [] + vw_cl S.2.2.2.2 false m l) * _ = _
      rw [Nat.add_mul, Nat.add_mul, Nat.add_mul, Nat.add_mul]
      omega
    rw [e, vx_ls_add, vx_ls_add]
    show vw (vw_bd S) S.2.2.2.2 6 q.1 [] + vw (vw_bd S) S.2.2.2.2 6 q.2 [] + vw_F S l ≤ vw_np q.1 + vw_np q.2 + vw_H l + _
    have g1 : vw (vw_bd S) S.2.2.2.2 6 q.1 [] = vw_tr S.2.2.2.2 (fun m => vw (vw_bd S) S.2.2.2.2 4 (vw_bd S m) []) (fun m => vw (vw_bd S) S.2.2.2.2 5 (vw_bd S m) []) q.1 [] := vw_s 5 q.1 []
    have g2 : vw (vw_bd S) S.2.2.2.2 6 q.2 [] = vw_tr S.2.2.2.2 (fun m => vw (vw_bd S) S.2.2.2.2 4 (vw_bd S m) []) (fun m => vw (vw_bd S) S.2.2.2.2 5 (vw_bd S m) []) q.2 [] := vw_s 5 q.2 []
    rw [g1, g2]
    omega
/-- unknowns are counted off from the largest on: what is left of the bytes -/
def vw_fit (o c e : Int → Nat) (bd : Int → rf_N) : Nat → List Int → Prop
  | _, [] => True
  | B, m :: us => o m + 2 * c m + 6 * e m + vw_np (bd m) ≤ B ∧ vw_fit o c e bd (B - (o m + 2 * c m + 6 * e m)) us
theorem vw_fit_mono {o c e : Int → Nat} {bd : Int → rf_N} : ∀ {us : List Int} {B B' : Nat}, B ≤ B' → vw_fit o c e bd B us → vw_fit o c e bd B' us
  | [], _, _, _, _ => trivial
  | m :: us, B, B', h, ⟨h1, h2⟩ => ⟨by omega, vw_fit_mono (by omega) h2⟩
theorem vw_fit_ok {o c e : Int → Nat} {bd : Int → rf_N} (ho : ∀ m, 8 ≤ o m ∧ (e m ≠ 0 → 10 ≤ o m)) : ∀ {us : List Int} {B : Nat}, vw_fit o c e bd (2 * B) us → vz_ok0 B (us.map (fun m => (c m, e m, vw_np (bd m))))
  | [], _, _ => trivial
  | m :: us, B, ⟨h1, h2⟩ => by
    obtain ⟨o1, o2⟩ := ho m
    have key : ∀ w, (if e m = 0 then 4 else 5) = w → 2 * w ≤ o m := fun w hw => by
      by_cases q : e m = 0
      · rw [if_pos q] at hw
        omega
      · rw [if_neg q] at hw
        have := o2 q
        omega
    obtain ⟨w, hw⟩ : ∃ w, (if e m = 0 then 4 else 5) = w := ⟨_, rfl⟩
    have k := key w hw
    show (if e m = 0 then 4 else 5) + (c m + 3 * e m) ≤ B ∧ vw_np (bd m) ≤ 2 * (B - ((if e m = 0 then 4 else 5) + (c m + 3 * e m))) ∧ vz_ok0 (B - ((if e m = 0 then 4 else 5) + (c m + 3 * e m))) _
    rw [hw]
    refine ⟨by omega, by omega, vw_fit_ok ho (vw_fit_mono (by omega) h2)⟩
