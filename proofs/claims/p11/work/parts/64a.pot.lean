/-! ===== how many turns solving takes: what may still be looked at below a term ===== -/
/-- is the call, below the \ ls, just the unknown's name made long? -/
def vw_br (AR : Nat → List Int) (ls : List Int) (j : Nat) : Bool := decide (AR j = (ls.take (AR j).length).reverse)
def vw_tr (AR : Nat → List Int) (gb ge : Int → Nat) : rf_N → List Int → Nat
  | .leaf, _ => 0
  | .inner j q _ F X, ls => (if q.1 = 3 then max 1 (if vw_br AR ls j = true then gb q.2 else ge q.2) else if q.1 = 0 then vw_tr AR gb ge F (q.2 :: ls) else 1 + vw_tr AR gb ge F []) + vw_tr AR gb ge X []
theorem vw_tr_in (AR : Nat → List Int) (gb ge : Int → Nat) (j : Nat) (q : Int × Int) (u : Unit) (F X : rf_N) (ls : List Int) : vw_tr AR gb ge (.inner j q u F X) ls = (if q.1 = 3 then max 1 (if vw_br AR ls j = true then gb q.2 else ge q.2) else if q.1 = 0 then vw_tr AR gb ge F (q.2 :: ls) else 1 + vw_tr AR gb ge F []) + vw_tr AR gb ge X [] := rfl
theorem vw_tr_le {AR : Nat → List Int} {gb ge gb' ge' : Int → Nat} (hb : ∀ m, gb m ≤ gb' m) (he : ∀ m, ge m ≤ ge' m) : ∀ (A : rf_N) (ls : List Int), vw_tr AR gb ge A ls ≤ vw_tr AR gb' ge' A ls
  | .leaf, _ => Nat.le_refl _
  | .inner j q u F X, ls => by
    have h1 := vw_tr_le (AR := AR) hb he F (q.2 :: ls)
    have h2 := vw_tr_le (AR := AR) hb he F []
    have h3 := vw_tr_le (AR := AR) hb he X []
    have h4 := hb q.2
    have h5 := he q.2
    rw [vw_tr_in, vw_tr_in]
    by_cases c3 : q.1 = 3
    · rw [if_pos c3, if_pos c3]
      by_cases cb : vw_br AR ls j = true
      · rw [if_pos cb, if_pos cb]
        omega
      · rw [if_neg cb, if_neg cb]
        omega
    · rw [if_neg c3, if_neg c3]
      by_cases c0 : q.1 = 0
      · rw [if_pos c0, if_pos c0]
        omega
      · rw [if_neg c0, if_neg c0]
        omega
/-- t: how much may still be spent, and 1; a bare call costs 2, another 1; bd: what the unknowns are given -/
def vw (bd : Int → rf_N) (AR : Nat → List Int) : Nat → rf_N → List Int → Nat
  | 0, _, _ => 0
  | 1, A, ls => vw_tr AR (fun _ => 0) (fun _ => 0) A ls
  | t + 2, A, ls => vw_tr AR (fun m => vw bd AR t (bd m) []) (fun m => vw bd AR (t + 1) (bd m) []) A ls
section
variable {bd : Int → rf_N} {AR : Nat → List Int}
theorem vw_0 (A : rf_N) (ls : List Int) : vw bd AR 0 A ls = 0 := by
  unfold vw
  rfl
theorem vw_s : ∀ (t : Nat) (A : rf_N) (ls : List Int), vw bd AR (t + 1) A ls = vw_tr AR (fun m => vw bd AR (t - 1) (bd m) []) (fun m => vw bd AR t (bd m) []) A ls
  | 0, A, ls => by
    have e : (fun m => vw bd AR 0 (bd m) []) = (fun _ : Int => 0) := funext (fun m => vw_0 _ _)
    show vw bd AR 1 A ls = vw_tr AR (fun m => vw bd AR 0 (bd m) []) (fun m => vw bd AR 0 (bd m) []) A ls
    rw [e]
    rw [vw]
  | t + 1, A, ls => by
    show vw bd AR (t + 2) A ls = vw_tr AR (fun m => vw bd AR t (bd m) []) (fun m => vw bd AR (t + 1) (bd m) []) A ls
    rw [vw]
theorem vw_le_s : ∀ (t : Nat) (A : rf_N) (ls : List Int), vw bd AR t A ls ≤ vw bd AR (t + 1) A ls
  | 0, A, ls => by
    rw [vw_0]
    exact Nat.zero_le _
  | 1, A, ls => by
    rw [vw_s, vw_s]
    exact vw_tr_le (fun m => Nat.le_refl _) (fun m => vw_le_s 0 _ _) A ls
  | t + 2, A, ls => by
    rw [vw_s, vw_s]
    exact vw_tr_le (fun m => vw_le_s t _ _) (fun m => vw_le_s (t + 1) _ _) A ls
theorem vw_mono {t t' : Nat} (h : t ≤ t') (A : rf_N) (ls : List Int) : vw bd AR t A ls ≤ vw bd AR t' A ls := by
  induction h with
  | refl => exact Nat.le_refl _
  | step _ ih => exact Nat.le_trans ih (vw_le_s _ _ _)
theorem vw_lam {t j : Nat} {x : Int} {F : rf_N} {ls : List Int} : vw bd AR t (rf_n j 0 x F .leaf) ls = vw bd AR t F (x :: ls) := by
  cases t with
  | zero => rw [vw_0, vw_0]
  | succ t =>
    rw [vw_s, vw_s, vw_tr_in, if_neg vx_03, if_pos rfl]
    rfl
theorem vw_hd {t j : Nat} {k h : Int} {F : rf_N} {ls : List Int} (h0 : k ≠ 0) (h3 : k ≠ 3) : vw bd AR (t + 1) (rf_n j k h F .leaf) ls = 1 + vw bd AR (t + 1) F [] := by
  rw [vw_s, vw_s, vw_tr_in, if_neg h3, if_neg h0]
  rfl
def vw_sm (f : rf_N → Nat) : List rf_N → Nat
  | [] => 0
  | A :: l => f A + vw_sm f l
theorem vw_tr_el {gb ge : Int → Nat} : ∀ (F : rf_N), vw_tr AR gb ge F [] = vw_sm (fun A => vw_tr AR gb ge A []) (vx_el F)
  | .leaf => rfl
  | .inner j q u F X => by
    have ih := vw_tr_el (gb := gb) (ge := ge) X
    have l1 : vx_el (.inner j q u F X) = .inner j q () F .leaf :: vx_el X := rfl
    have e0 : vw_tr AR gb ge .leaf [] = 0 := rfl
    rw [l1, vw_tr_in, ih]
    show _ = vw_tr AR gb ge (.inner j q () F .leaf) [] + vw_sm _ (vx_el X)
    rw [vw_tr_in, e0, Nat.add_zero]
theorem vw_row (t : Nat) (F : rf_N) : vw bd AR t F [] = vw_sm (fun A => vw bd AR t A []) (vx_el F) := by
  cases t with
  | zero =>
    rw [vw_0]
    have : ∀ l : List rf_N, vw_sm (fun A => vw bd AR 0 A []) l = 0 := fun l => by
      induction l with
      | nil => rfl
      | cons A l ih =>
        show vw bd AR 0 A [] + vw_sm _ l = 0
        rw [ih, vw_0]
    rw [this]
  | succ t =>
    rw [vw_s, vw_tr_el]
    have e : (fun A => vw bd AR (t + 1) A []) = (fun A => vw_tr AR (fun m => vw bd AR (t - 1) (bd m) []) (fun m => vw bd AR t (bd m) []) A []) := funext (fun A => vw_s t A [])
    rw [e]
theorem vw_call {t j : Nat} {m : Int} {F : rf_N} {ls : List Int} : vw bd AR (t - 2) (bd m) [] ≤ vw bd AR t (rf_n j 3 m F .leaf) ls := by
  cases t with
  | zero =>
    rw [vw_0]
    exact Nat.zero_le _
  | succ t =>
    rw [vw_s, vw_tr_in, if_pos rfl, show t + 1 - 2 = t - 1 by omega]
    have h1 := vw_mono (bd := bd) (AR := AR) (show t - 1 ≤ t by omega) (bd m) []
    by_cases cb : vw_br AR ls j = true
    · rw [if_pos cb]
      dsimp only
      omega
    · rw [if_neg cb]
      dsimp only
      omega
theorem vw_callx {t j : Nat} {m : Int} {F : rf_N} {ls : List Int} (hb : vw_br AR ls j ≠ true) : vw bd AR (t - 1) (bd m) [] ≤ vw bd AR t (rf_n j 3 m F .leaf) ls := by
  cases t with
  | zero =>
    rw [vw_0]
    exact Nat.zero_le _
  | succ t =>
    rw [vw_s, vw_tr_in, if_pos rfl, show t + 1 - 1 = t by omega, if_neg hb]
    dsimp only
    omega
/-- a turn is always paid for -/
theorem vw_pos {t : Nat} {A : rf_N} {ls : List Int} (ht : 1 ≤ t) (hA : vx_sg A) (hl : ¬ vx_isl A) : 1 ≤ vw bd AR t A ls := by
  obtain ⟨j, k, h, F, rfl⟩ := hA
  obtain ⟨t, rfl⟩ : ∃ t', t = t' + 1 := ⟨t - 1, by omega⟩
  by_cases h3 : k = 3
  · subst h3
    rw [vw_s, vw_tr_in, if_pos rfl]
    omega
  · rw [vw_hd (fun q => hl ⟨j, h, F, by rw [q]⟩) h3]
    omega
end
/-- below n \ -/
def vw_lv : List Int → Int → List (Int × Int)
  | [], _ => []
  | x :: xs, L => (x, L + (xs.length : Int)) :: vw_lv xs L
theorem vw_lv_snoc {x L : Int} : ∀ {xs : List Int}, vw_lv (xs ++ [x]) L = vw_lv xs (L + 1) ++ [(x, L)]
  | [] => by
    show [(x, L + ((([] : List Int).length : Nat) : Int))] = [(x, L)]
    rw [List.length_nil]
    simp
  | y :: xs => by
    show (y, L + ((xs ++ [x]).length : Int)) :: vw_lv (xs ++ [x]) L = (y, L + 1 + (xs.length : Int)) :: (vw_lv xs (L + 1) ++ [(x, L)])
    rw [vw_lv_snoc, List.length_append, List.length_singleton, show L + ((xs.length + 1 : Nat) : Int) = L + 1 + (xs.length : Int) by omega]
theorem vw_lv_fst {L : Int} : ∀ {xs : List Int}, (vw_lv xs L).map Prod.fst = xs
  | [] => rfl
  | x :: xs => by
    show x :: (vw_lv xs L).map Prod.fst = _
    rw [vw_lv_fst]
theorem vw_lv_snd {L : Int} : ∀ {xs ys : List Int}, xs.length = ys.length → (vw_lv xs L).map Prod.snd = (vw_lv ys L).map Prod.snd
  | [], [], _ => rfl
  | [], _ :: _, h => by cases h
  | _ :: _, [], h => by cases h
  | x :: xs, y :: ys, h => by
    rw [List.length_cons, List.length_cons] at h
    show (L + (xs.length : Int)) :: (vw_lv xs L).map Prod.snd = (L + (ys.length : Int)) :: (vw_lv ys L).map Prod.snd
    rw [vw_lv_snd (xs := xs) (ys := ys) (by omega), show xs.length = ys.length by omega]
/-- the first n \, the innermost first -/
def vw_bn : Nat → rf_N → List Int
  | 0, _ => []
  | _ + 1, .leaf => []
  | n + 1, .inner _ q _ F _ => vw_bn n F ++ [q.2]
theorem vw_sl {bd : Int → rf_N} {AR : Nat → List Int} : ∀ {n : Nat} {A A' : rf_N} {c c' : List (Int × Int)} {L : Int}, vx_sl n A c L A' c' → (vw_bn n A).length = n ∧ c' = vw_lv (vw_bn n A) L ++ c ∧ ∀ t ls, vw bd AR t A ls = vw bd AR t A' (vw_bn n A ++ ls)
  | 0, A, A', c, c', L, ⟨h1, h2⟩ => ⟨rfl, h2.symm, fun t ls => by rw [h1]; rfl⟩
  | n + 1, A, A', c, c', L, ⟨j, x, F, e, h⟩ => by
    obtain ⟨h1, h2, h3⟩ := vw_sl (bd := bd) (AR := AR) h
    have eb : vw_bn (n + 1) A = vw_bn n F ++ [x] := by rw [e]; rfl
    rw [eb]
    refine ⟨by rw [List.length_append, List.length_singleton, h1], ?_, fun t ls => ?_⟩
    · rw [h2, vw_lv_snoc, List.append_assoc]
      rfl
    · rw [e, vw_lam, h3, List.append_assoc]
      rfl
theorem vx_sl_fun : ∀ {n : Nat} {A A' B' : rf_N} {c c' d d' : List (Int × Int)} {L M : Int}, vx_sl n A c L A' c' → vx_sl n A d M B' d' → A' = B'
  | 0, _, _, _, _, _, _, _, _, _, ⟨h1, _⟩, ⟨h2, _⟩ => h1.symm.trans h2
  | n + 1, A, A', B', c, c', d, d', L, M, ⟨j, x, F, e, h⟩, ⟨j', x', F', e', h'⟩ => by
    rw [e] at e'
    injection e' with _ _ _ e3
    rw [← e3] at h'
    exact vx_sl_fun h h'
theorem vx_sl_zz {th : Int → rf_N} : ∀ {n : Nat} {A A' : rf_N} {c c' : List (Int × Int)} {L : Int}, vx_sl n A c L A' c' → vx_zz th A' ≤ vx_zz th A
  | 0, _, _, _, _, _, ⟨h1, _⟩ => by
    rw [h1]
    exact Nat.le_refl _
  | n + 1, A, A', c, c', L, ⟨j, x, F, e, h⟩ => by
    have h1 := vx_sl_zz (th := th) h
    have h2 := vx_zz_lam (th := th) (j := j) (x := x) (F := F)
    rw [e]
    omega
/-- what the \ just taken off bind: by their levels -/
theorem vw_lk {xs : List Int} {L : Int} {c c' : List (Int × Int)} (hc : c' = vw_lv xs L ++ c) (hn : (c'.map Prod.fst).Nodup) (n : Nat) : ((xs.take n).reverse).map (dv_lk c') = (((vw_lv xs L).map Prod.snd).take n).reverse := by
  have key : xs.map (dv_lk c') = (vw_lv xs L).map Prod.snd := by
    have e : xs = (vw_lv xs L).map Prod.fst := vw_lv_fst.symm
    conv => lhs; rw [e]
    rw [List.map_map]
    refine List.map_congr_left (fun p hp => ?_)
    exact dv_lk_mem hn (by rw [hc]; exact List.mem_append_left _ hp)
  rw [List.map_reverse, List.map_take, key]
/-- two bare calls have the same ARGs -/
theorem vw_bare {AR : Nat → List Int} {xs ys : List Int} {L : Int} {c c' d d' : List (Int × Int)} {j j' : Nat} (hc : c' = vw_lv xs L ++ c) (hd : d' = vw_lv ys L ++ d) (hcn : (c'.map Prod.fst).Nodup) (hdn : (d'.map Prod.fst).Nodup) (hl : xs.length = ys.length) (ha : (AR j).length = (AR j').length) (h1 : vw_br AR xs j = true) (h2 : vw_br AR ys j' = true) : (AR j).map (dv_lk c') = (AR j').map (dv_lk d') := by
  have e1 := of_decide_eq_true h1
  have e2 := of_decide_eq_true h2
  have k1 := vw_lk hc hcn (AR j).length
  have k2 := vw_lk hd hdn (AR j').length
  rw [← e1] at k1
  rw [← e2] at k2
  rw [k1, k2, ha, vw_lv_snd hl]
