/-! ===== two values that are alike, of one type, are written alike ===== -/
theorem wt_ct {p : Int → Bool} : ∀ {l l' : List Int}, l.Nodup → (∀ x ∈ l, x ∈ l') → l.countP p ≤ l'.countP p
  | [], _, _, _ => Nat.zero_le _
  | x :: t, l', hn, hs => by
    obtain ⟨l1, l2, e⟩ := List.append_of_mem (hs x List.mem_cons_self)
    have hn' := List.nodup_cons.mp hn
    have ih := wt_ct (p := p) (l := t) (l' := l1 ++ l2) hn'.2 (fun y hy => by
      have := hs y (List.mem_cons_of_mem _ hy)
      rw [e] at this
      rcases List.mem_append.mp this with h | h
      · exact List.mem_append_left _ h
      · rcases List.mem_cons.mp h with rfl | h
        · exact absurd hy hn'.1
        · exact List.mem_append_right _ h)
    rw [List.countP_append] at ih
    rw [e, List.countP_append, List.countP_cons, List.countP_cons]
    generalize (if p x = true then 1 else 0) = z
    omega
theorem wt_cl : ∀ l : List Int, l.countP (fun _ => true) = l.length
  | [] => rfl
  | x :: l => by
    rw [List.countP_cons, wt_cl l, if_pos rfl]
    rfl
theorem wt_rk (v : Int) (xs : List Int) : ∀ n, n ≤ xs.length → rf_sum (fun i => if xs.getD i (-1) < v then 1 else 0) n = (xs.take n).countP (fun y => decide (y < v))
  | 0, _ => rfl
  | n + 1, h => by
    have hn : n < xs.length := by omega
    rw [rf_sum_s, wt_rk v xs n (by omega), List.take_succ, List.getElem?_eq_getElem hn, List.countP_append]
    congr 1
    show (if xs.getD n (-1) < v then 1 else 0) = List.countP (fun y => decide (y < v)) [xs[n]]
    rw [List.countP_cons, vx_gD hn]
    by_cases c : xs[n] < v
    · rw [if_pos c, if_pos (decide_eq_true c)]
      rfl
    · rw [if_neg c, if_neg (by rw [decide_eq_true_eq]; exact c)]
      rfl
theorem wt_rnk (xs : List Int) (k : Nat) : rf_rnk (fun i => xs.getD i (-1)) xs.length k = xs.countP (fun y => decide (y < xs.getD k (-1))) := by
  have := wt_rk (xs.getD k (-1)) xs xs.length (Nat.le_refl _)
  rw [List.take_length] at this
  exact this
def wt_inj (r : List Int) : Prop := ∀ p q : Nat, p < r.length → q < r.length → r.getD p (-1) = r.getD q (-1) → p = q
theorem wt_nd {r : List Int} (h : wt_inj r) : r.Nodup := List.pairwise_iff_getElem.mpr (fun i j hi hj hij e => by
  have := h i j hi hj (by rw [vx_gD hi, vx_gD hj]; exact e)
  omega)
theorem wt_gm {f : Int → Int} {l : List Int} {k : Nat} (hk : k < l.length) : (l.map f).getD k (-1) = f l[k] := by
  rw [List.getD_eq_getElem?_getD, List.getElem?_map, List.getElem?_eq_getElem hk]
  rfl
theorem wt_in {r : List Int} {k : Nat} (h : 0 ≤ r.getD k (-1)) : ∃ hk : k < r.length, r.getD k (-1) = r[k] := by
  by_cases c : k < r.length
  · exact ⟨c, vx_gD c⟩
  · exfalso
    rw [List.getD_eq_getElem?_getD, List.getElem?_eq_none (by omega)] at h
    exact absurd h (by decide)
theorem wt_od {r r' xs xs' I J : List Int} (hr' : r' = I.map (fun i => r.getD i.toNat (-1))) (hr : r = J.map (fun i => r'.getD i.toNat (-1))) (hx' : xs' = I.map (fun i => xs.getD i.toNat (-1))) (hx : xs = J.map (fun i => xs'.getD i.toNat (-1))) (n4 : r.length ≤ 4) (d : wt_inj r) (d' : wt_inj r') (p0 : ∀ y ∈ r, 0 ≤ y) (p0' : ∀ y ∈ r', 0 ≤ y) : xs'.length = xs.length ∧ ∀ p, p < xs.length → (we_od r p < xs.length ∧ we_od r' p < xs'.length) ∧ xs.getD (we_od r p) (-1) = xs'.getD (we_od r' p) (-1) := by
  have lx : xs.length = r.length := by
    have e1 : xs.length = J.length := by rw [hx, List.length_map]
    have e2 : r.length = J.length := by rw [hr, List.length_map]
    omega
  have lI : xs'.length = I.length := by rw [hx', List.length_map]
  have lI' : r'.length = I.length := by rw [hr', List.length_map]
  have sub' : ∀ y ∈ r', y ∈ r := fun y hy => by
    have y0 := p0' y hy
    rw [hr'] at hy
    obtain ⟨i, _, hi⟩ := List.mem_map.mp hy
    rw [← hi] at y0 ⊢
    obtain ⟨hk, e⟩ := wt_in y0
    rw [e]
    exact List.getElem_mem hk
  have sub : ∀ y ∈ r, y ∈ r' := fun y hy => by
    have y0 := p0 y hy
    rw [hr] at hy
    obtain ⟨i, _, hi⟩ := List.mem_map.mp hy
    rw [← hi] at y0 ⊢
    obtain ⟨hk, e⟩ := wt_in y0
    rw [e]
    exact List.getElem_mem hk
  have nd := wt_nd d
  have nd' := wt_nd d'
  have len : r'.length = r.length := by
    have a1 := wt_ct (p := fun _ => true) nd sub
    have a2 := wt_ct (p := fun _ => true) nd' sub'
    rw [wt_cl, wt_cl] at a1 a2
    omega
  refine ⟨by omega, fun p hp => ?_⟩
  obtain ⟨k, k1, k2⟩ := rf_rnk_sur (D := fun i => r.getD i (-1)) (n := r.length) n4 d (r := p) (by omega)
  have ek : we_od r p = k := by
    rw [← k2]
    exact we_od_at d k1
  obtain ⟨j, j1, j2⟩ := List.getElem_of_mem (sub r[k] (List.getElem_mem k1))
  have rj : rf_rnk (fun i => r'.getD i (-1)) r'.length j = p := by
    rw [wt_rnk, vx_gD j1, j2, ← k2, wt_rnk, vx_gD k1]
    have a1 := wt_ct (p := fun y => decide (y < r[k])) nd sub
    have a2 := wt_ct (p := fun y => decide (y < r[k])) nd' sub'
    omega
  have ej : we_od r' p = j := by
    rw [← rj]
    exact we_od_at d' j1
  have jI : j < I.length := by omega
  have e1 : r'.getD j (-1) = r.getD (I[j]).toNat (-1) := by
    rw [hr']
    exact wt_gm jI
  have e2 : xs'.getD j (-1) = xs.getD (I[j]).toNat (-1) := by
    rw [hx']
    exact wt_gm jI
  rw [vx_gD j1, j2] at e1
  have y0 : 0 ≤ r.getD (I[j]).toNat (-1) := by
    rw [← e1]
    exact p0 _ (List.getElem_mem k1)
  obtain ⟨hk, e3⟩ := wt_in y0
  have e4 : (I[j]).toNat = k := d _ _ hk k1 (by rw [← e1, vx_gD k1])
  rw [ek, ej, e2, e4]
  exact ⟨⟨by omega, by omega⟩, rfl⟩
/-- a value has a type: Γ: the types of what is bound, by levels -/
def wt (tc : Int → rf_T) (nC : Int) (ht : Int → List rf_T) : rf_N → ((Int → rf_T) → Int → rf_T → Prop) × ((Int → rf_T) → Int → rf_T → Prop)
  | .leaf => (fun _ _ _ => False, fun _ _ u => u = rf_b)
  | .inner _ q _ F X => (fun Γ L t => (q.1 = 0 ∧ vx_on F ∧ ∃ a B, t = rf_a a B ∧ (wt tc nC ht F).1 (fun l => if l = L then a else Γ l) (L + 1) B) ∨ ((q.1 = 1 ∧ q.2 < 0) ∧ t = rf_b ∧ ∀ (i : Nat) y, (dz_hs F)[i]? = some y → (ht q.2).getD i .leaf = Γ y ∧ 0 ≤ y) ∨ (q.1 = 1 ∧ (0 ≤ q.2 ∧ q.2 < nC) ∧ t = rf_b ∧ (wt tc nC ht F).2 Γ L (tc q.2)) ∨ (q.1 = 2 ∧ t = rf_b ∧ (wt tc nC ht F).2 Γ L (Γ q.2)), fun Γ L u => ∃ A B, u = rf_a A B ∧ ((q.1 = 0 ∧ vx_on F ∧ ∃ a B, A = rf_a a B ∧ (wt tc nC ht F).1 (fun l => if l = L then a else Γ l) (L + 1) B) ∨ ((q.1 = 1 ∧ q.2 < 0) ∧ A = rf_b ∧ ∀ (i : Nat) y, (dz_hs F)[i]? = some y → (ht q.2).getD i .leaf = Γ y ∧ 0 ≤ y) ∨ (q.1 = 1 ∧ (0 ≤ q.2 ∧ q.2 < nC) ∧ A = rf_b ∧ (wt tc nC ht F).2 Γ L (tc q.2)) ∨ (q.1 = 2 ∧ A = rf_b ∧ (wt tc nC ht F).2 Γ L (Γ q.2))) ∧ (wt tc nC ht X).2 Γ L B)
theorem wt_2 {tc : Int → rf_T} {nC : Int} {ht : Int → List rf_T} {j : Nat} {q : Int × Int} {u : Unit} {F X : rf_N} {Γ : Int → rf_T} {L : Int} {w : rf_T} : (wt tc nC ht (.inner j q u F X)).2 Γ L w ↔ ∃ A B, w = rf_a A B ∧ (wt tc nC ht (.inner j q u F X)).1 Γ L A ∧ (wt tc nC ht X).2 Γ L B := Iff.rfl
theorem wt_a_inj {a B a' B' : rf_T} (h : rf_a a B = rf_a a' B') : a = a' ∧ B = B' := by
  injection h with _ _ _ h1 h2
  exact ⟨h1, h2⟩
theorem wz_rl_len {π π' : Int → Int} {I J : Int → List Int} : ∀ {A B : rf_N}, wz_rl π π' I J A B → rf_len A = rf_len B
  | .leaf, .leaf, _ => rfl
  | .leaf, .inner _ _ _ _ _, h => h.elim
  | .inner _ _ _ _ _, .leaf, h => h.elim
  | .inner _ _ _ _ X, .inner _ _ _ _ X', h => by
    have := wz_rl_len (wz_rl_in.mp h).2
    show rf_len X + 1 = rf_len X' + 1
    omega
section
variable {nm : Int → List Int} {hf : Int → List Int → Int → we_A (List Int) → we_A (List Int)} {q : Int × Int} {F : rf_N} {W : (Int → we_A (List Int) → we_A (List Int)) × (Int → we_A (List Int) → we_A (List Int))} {L : Int} {w : we_A (List Int)}
theorem wt_ol (h0 : q.1 = 0) : we_o wk_pb wb_dg nm hf q F W L w = W.1 (L + 1) (w.1, w.2 ++ (92 :: 120 :: (wb_dg L ++ [46]))) := by
  unfold we_o
  rw [if_pos h0, wk_bs]
theorem wt_oc (h0 : q.1 = 1) (h1 : ¬ (q.1 = 1 ∧ q.2 < 0)) : we_o wk_pb wb_dg nm hf q F W L w = W.2 L (w.1, w.2 ++ nm q.2) := by
  unfold we_o
  rw [if_neg (by omega), if_neg h1, if_pos h0, wk_bs]
theorem wt_ov (h0 : q.1 = 2) : we_o wk_pb wb_dg nm hf q F W L w = W.2 L (w.1, w.2 ++ (120 :: wb_dg q.2)) := by
  unfold we_o
  rw [if_neg (by omega), if_neg (fun z => by omega), if_neg (by omega), wk_bs]
end
/-- numbered rows -/
def wt_rows (a : List (Int × List Int)) : Prop := (a.map Prod.fst).Nodup ∧ ∀ p ∈ a, p.2.length ≤ 4 ∧ wt_inj p.2 ∧ ∀ y ∈ p.2, 0 ≤ y
theorem wt_eq {π π' : Int → Int} {I J : Int → List Int} {nm nm' : Int → List Int} {ht ht' : Int → List rf_T} {tc : Int → rf_T} {nC : Int} {a b : List (Int × List Int)} (hab : wz_Rl (wz_P π π' I J) a b) (ra : wt_rows a) (rb : wt_rows b) (hnm : ∀ h, 0 ≤ h → h < nC → nm h = nm' h) : ∀ {A B : rf_N}, wz_rl π π' I J A B → (∀ x, wz_oc x A → x ∈ a.map Prod.fst) → (∀ (Γ : Int → rf_T) (L : Int) (t : rf_T), (wt tc nC ht A).1 Γ L t → (wt tc nC ht' B).1 Γ L t → ∀ o, ∃ o', (we_w wk_pb wb_dg nm (we_hf wk_pb wb_dg nm ht) A).1 L (a, o) = (a, o') ∧ (we_w wk_pb wb_dg nm' (we_hf wk_pb wb_dg nm' ht') B).1 L (b, o) = (b, o')) ∧ (∀ (Γ : Int → rf_T) (L : Int) (t : rf_T), (wt tc nC ht A).2 Γ L t → (wt tc nC ht' B).2 Γ L t → ∀ o, ∃ o', (we_w wk_pb wb_dg nm (we_hf wk_pb wb_dg nm ht) A).2 L (a, o) = (a, o') ∧ (we_w wk_pb wb_dg nm' (we_hf wk_pb wb_dg nm' ht') B).2 L (b, o) = (b, o'))
  | .leaf, .leaf, _, _ => ⟨fun _ _ _ h => h.elim, fun _ _ _ _ _ o => ⟨o, rfl, rfl⟩⟩
  | .leaf, .inner _ _ _ _ _, h, _ => h.elim
  | .inner _ _ _ _ _, .leaf, h, _ => h.elim
  | .inner j q u F X, .inner j' q' u' F' X', h, ho => by
    obtain ⟨h1, h2⟩ := wz_rl_in.mp h
    have hX := wt_eq (ht := ht) (ht' := ht') (tc := tc) hab ra rb hnm h2 (fun x hx => ho x (wz_oc_in.mpr (Or.inr hx)))
    -- the number of ARGs, and what is written of the head
    have one : (rf_len F = rf_len F' ∧ (q.1 = 0 ↔ q'.1 = 0)) ∧ ∀ (Γ : Int → rf_T) (L : Int) (t : rf_T), (wt tc nC ht (.inner j q u F X)).1 Γ L t → (wt tc nC ht' (.inner j' q' u' F' X')).1 Γ L t → ∀ o, ∃ o', we_o wk_pb wb_dg nm (we_hf wk_pb wb_dg nm ht) q F (we_w wk_pb wb_dg nm (we_hf wk_pb wb_dg nm ht) F) L (a, o) = (a, o') ∧ we_o wk_pb wb_dg nm' (we_hf wk_pb wb_dg nm' ht') q' F' (we_w wk_pb wb_dg nm' (we_hf wk_pb wb_dg nm' ht') F') L (b, o) = (b, o') := by
      by_cases c : q.1 = 1 ∧ q.2 < 0
      · rw [if_pos c] at h1
        obtain ⟨⟨c1, c2⟩, ⟨c3, c4⟩, c5, c6⟩ := h1
        have hin := ho q.2 (wz_oc_in.mpr (Or.inl (by rw [if_pos c])))
        obtain ⟨p, hp, ep⟩ := List.mem_map.mp hin
        obtain ⟨i, hi⟩ := List.mem_iff_getElem?.mp hp
        obtain ⟨zzp, hi', ⟨e1, e2⟩, e3, e4⟩ := wz_Rl_get hab hi
        have ep' : zzp.1 = q'.2 := by rw [e1, ep, ← c3]
        have hpm' : zzp ∈ b := List.mem_of_getElem? hi'
        obtain ⟨a1, a2, a3⟩ := ra.2 p hp
        obtain ⟨b1, b2, b3⟩ := rb.2 zzp hpm'
        rw [ep] at e3
        rw [ep'] at e4
        obtain ⟨l1, l2⟩ := wt_od e3 e4 c5 c6 a1 a2 b2 a3 b3
        have hi2 : a[i]? = some (q.2, p.2) := by rw [hi, ← ep]
        have hi2' : b[i]? = some (q'.2, zzp.2) := by rw [hi', ← ep']
        have w1 : we_rw a q.2 = p.2 := we_rw_at ra.1 hi2
        have w2 : we_rw b q'.2 = zzp.2 := we_rw_at rb.1 hi2'
        have n1 : vx_ii (a.map Prod.fst) q.2 = (i : Int) := we_ii_at ra.1 hi2
        have n2 : vx_ii (b.map Prod.fst) q'.2 = (i : Int) := we_ii_at rb.1 hi2'
        have hin' : q'.2 ∈ b.map Prod.fst := List.mem_map.mpr ⟨zzp, hpm', ep'⟩
        have d1 : wz_ad a q.2 (dz_hs F) = a := by
          unfold wz_ad
          rw [if_pos hin]
        have d2 : wz_ad b q'.2 (dz_hs F') = b := by
          unfold wz_ad
          rw [if_pos hin']
        have lF : rf_len F = rf_len F' := by
          rw [dz_hs_len, dz_hs_len] at l1
          exact l1.symm
        refine ⟨⟨lF, by omega⟩, fun Γ L t ht1 ht2 o => ?_⟩
        have g1 : ∀ (i : Nat) y, (dz_hs F)[i]? = some y → (ht q.2).getD i .leaf = Γ y ∧ 0 ≤ y := by
          rcases ht1 with ⟨z, _⟩ | ⟨_, _, z⟩ | ⟨_, z, _⟩ | ⟨z, _⟩
          · omega
          · exact z
          · omega
          · omega
        have g2 : ∀ (i : Nat) y, (dz_hs F')[i]? = some y → (ht' q'.2).getD i .leaf = Γ y ∧ 0 ≤ y := by
          rcases ht2 with ⟨z, _⟩ | ⟨_, _, z⟩ | ⟨_, z, _⟩ | ⟨z, _⟩
          · omega
          · exact z
          · omega
          · omega
        have key : ∀ x, x < (dz_hs F).length → (ht q.2).getD (we_od p.2 x) .leaf = (ht' q'.2).getD (we_od zzp.2 x) .leaf ∧ (dz_hs F).getD (we_od p.2 x) (-1) = (dz_hs F').getD (we_od zzp.2 x) (-1) := fun x hx => by
          obtain ⟨⟨m1, m2⟩, m3⟩ := l2 x hx
          refine ⟨?_, m3⟩
          rw [(g1 _ _ (List.getElem?_eq_getElem m1)).1, (g2 _ _ (List.getElem?_eq_getElem m2)).1, ← vx_gD m1, ← vx_gD m2, m3]
        have t1 : (List.range (dz_hs F).length).map (fun x => (ht q.2).getD (we_od p.2 x) .leaf) = (List.range (dz_hs F').length).map (fun x => (ht' q'.2).getD (we_od zzp.2 x) .leaf) := by
          rw [l1]
          exact List.map_congr_left (fun x hx => (key x (List.mem_range.mp hx)).1)
        have t2 : (List.range (dz_hs F).length).map (fun x => (dz_hs F).getD (we_od p.2 x) (-1)) = (List.range (dz_hs F').length).map (fun x => (dz_hs F').getD (we_od zzp.2 x) (-1)) := by
          rw [l1]
          exact List.map_congr_left (fun x hx => (key x (List.mem_range.mp hx)).2)
        unfold we_o
        rw [if_neg (by omega), if_pos c, if_neg (by omega), if_pos ⟨c1, c2⟩, wk_hf, wk_hf]
        dsimp only
        rw [d1, d2, w1, w2, n1, n2, t1, t2]
        exact ⟨_, rfl, rfl⟩
      · rw [if_neg c] at h1
        obtain ⟨eq, hF'⟩ := h1
        subst eq
        have hF := wt_eq (ht := ht) (ht' := ht') (tc := tc) hab ra rb hnm hF' (fun x hx => ho x (wz_oc_in.mpr (Or.inl (by rw [if_neg c]; exact hx))))
        refine ⟨⟨wz_rl_len hF', Iff.rfl⟩, fun Γ L t ht1 ht2 o => ?_⟩
        rcases ht1 with ⟨z, _, a1, B1, e1, y1⟩ | ⟨z, _⟩ | ⟨z1, z2, e1, y1⟩ | ⟨z1, e1, y1⟩
        · rcases ht2 with ⟨_, _, a2, B2, e2, y2⟩ | ⟨z2, _⟩ | ⟨z2, _⟩ | ⟨z2, _⟩
          · obtain ⟨f1, f2⟩ := wt_a_inj (e1.symm.trans e2)
            subst f1 f2
            obtain ⟨o', r1, r2⟩ := hF.1 _ _ _ y1 y2 (o ++ (92 :: 120 :: (wb_dg L ++ [46])))
            rw [wt_ol z, wt_ol z]
            exact ⟨o', r1, r2⟩
          · omega
          · omega
          · omega
        · exact absurd z c
        · rcases ht2 with ⟨w, _⟩ | ⟨w, _⟩ | ⟨_, _, _, y2⟩ | ⟨w, _⟩
          · omega
          · exact absurd w c
          · obtain ⟨o', r1, r2⟩ := hF.2 _ _ _ y1 y2 (o ++ nm q'.2)
            rw [wt_oc z1 c, wt_oc z1 c, ← hnm q'.2 z2.1 z2.2]
            exact ⟨o', r1, r2⟩
          · omega
        · rcases ht2 with ⟨w, _⟩ | ⟨w, _⟩ | ⟨w, _⟩ | ⟨_, _, y2⟩
          · omega
          · omega
          · omega
          · obtain ⟨o', r1, r2⟩ := hF.2 _ _ _ y1 y2 (o ++ (120 :: wb_dg q'.2))
            rw [wt_ov z1, wt_ov z1]
            exact ⟨o', r1, r2⟩
    obtain ⟨⟨lF, q0⟩, one⟩ := one
    refine ⟨one, fun Γ L t ht1 ht2 o => ?_⟩
    obtain ⟨A1, B1, e1, y1, y2⟩ := wt_2.mp ht1
    obtain ⟨A2, B2, e2, z1, z2⟩ := wt_2.mp ht2
    obtain ⟨f1, f2⟩ := wt_a_inj (e1.symm.trans e2)
    subst f1 f2
    rw [we_w_2, we_w_2, wk_bs, wk_bs]
    dsimp only
    by_cases c : q.1 = 0 ∨ rf_len F ≠ 0
    · have c' : q'.1 = 0 ∨ rf_len F' ≠ 0 := by
        rw [← lF, ← q0]
        exact c
      unfold we_g
      rw [if_pos c, if_pos c']
      simp only [wk_bs]
      obtain ⟨o1, r1, r2⟩ := one Γ L _ y1 z1 (o ++ [32] ++ [40])
      rw [r1, r2]
      exact hX.2 Γ L _ y2 z2 (o1 ++ [41])
    · have c' : ¬ (q'.1 = 0 ∨ rf_len F' ≠ 0) := by
        rw [← lF, ← q0]
        exact c
      unfold we_g
      rw [if_neg c, if_neg c']
      obtain ⟨o1, r1, r2⟩ := one Γ L _ y1 z1 (o ++ [32])
      rw [r1, r2]
      exact hX.2 Γ L _ y2 z2 o1
