/-! ===== the values of long forms ===== -/
def vq_lm : Nat → rf_N → rf_N
  | 0, T => T
  | n + 1, T => rf_n 0 0 0 (vq_lm n T) .leaf
/-- the ARGs that a type wants, variables from i on, M bound around -/
def vq_row : rf_T → Int → Int → rf_N
  | .leaf, _, _ => .leaf
  | .inner _ _ _ A B, i, M => vx_sb (vq_lm (rf_args A).length (rf_n 0 2 i (vq_row A M (M + ((rf_args A).length : Int))) .leaf)) (vq_row B (i + 1) M)
/-- the long form of a variable n -/
def vq_cv (A : rf_T) (n L : Int) : rf_N := vq_lm (rf_args A).length (rf_n 0 2 n (vq_row A L (L + ((rf_args A).length : Int))) .leaf)
theorem vq_row_in (z : Nat) (u v : Unit) (A B : rf_T) (i M : Int) : vq_row (.inner z u v A B) i M = vx_sb (vq_cv A i M) (vq_row B (i + 1) M) := rfl
def vq_rl : List rf_T → List Int → Int → rf_N
  | A :: As, n :: ns, M => vx_sb (vq_cv A n M) (vq_rl As ns M)
  | _, _, _ => .leaf
/-- what is bound: us, from L on -/
def vq_up : List Int → Int → (Int → Int) → Int → Int
  | [], _, e => e
  | u :: us, L, e => vq_up us (L + 1) (vx_up e u L)
theorem vq_lm_on {T : rf_N} (h : vx_on T) : ∀ n, vx_on (vq_lm n T)
  | 0 => h
  | _ + 1 => ⟨0, 0, _, rfl⟩
theorem vq_cv_on (A : rf_T) (n L : Int) : vx_on (vq_cv A n L) := vq_lm_on ⟨2, n, _, rfl⟩ _
theorem vq_up_no {w : Int} : ∀ {us : List Int} {L : Int} {e : Int → Int}, w ∉ us → vq_up us L e w = e w
  | [], _, _, _ => rfl
  | u :: us, L, e, h => by
    have h1 : w ≠ u := fun q => h (by rw [q]; exact List.mem_cons_self)
    show vq_up us (L + 1) (vx_up e u L) w = e w
    rw [vq_up_no (fun q => h (List.mem_cons_of_mem _ q))]
    unfold vx_up
    rw [if_neg h1]
theorem vq_up_at : ∀ {us : List Int} {L : Int} {e : Int → Int} {i : Nat} {w : Int}, us.Nodup → us[i]? = some w → vq_up us L e w = L + (i : Int)
  | [], _, _, _, _, _, h => by simp at h
  | u :: us, L, e, 0, w, hn, h => by
    have hw : u = w := by simpa using h
    have hn' := (List.nodup_cons.mp hn).1
    show vq_up us (L + 1) (vx_up e u L) w = _
    rw [vq_up_no (by rw [← hw]; exact hn')]
    unfold vx_up
    rw [if_pos hw.symm]
    show L = L + 0
    omega
  | u :: us, L, e, i + 1, w, hn, h => by
    rw [List.getElem?_cons_succ] at h
    show vq_up us (L + 1) (vx_up e u L) w = _
    rw [vq_up_at (List.nodup_cons.mp hn).2 h]
    push_cast
    omega
theorem vq_up_map {us : List Int} (hn : us.Nodup) (L : Int) (e : Int → Int) : ∀ k : Nat, k < us.length → (us.map (vq_up us L e))[k]? = some (L + (k : Int)) := fun k hk => by
  rw [List.getElem?_map, List.getElem?_eq_getElem hk]
  show some (vq_up us L e us[k]) = _
  rw [vq_up_at hn (List.getElem?_eq_getElem hk)]
theorem vq_rl_row : ∀ (x : rf_T) (i M : Int) (ns : List Int), ns.length = (rf_args x).length → (∀ k : Nat, k < ns.length → ns[k]? = some (i + (k : Int))) → vq_rl (rf_args x) ns M = vq_row x i M
  | .leaf, _, _, [], _, _ => rfl
  | .leaf, _, _, _ :: _, h, _ => by simp [rf_args] at h
  | .inner _ _ _ A B, _, _, [], h, _ => by simp [rf_args] at h
  | .inner _ _ _ A B, i, M, n :: ns, h, hk => by
    have h0 := hk 0 (Nat.succ_pos _)
    have e0 : n = i := by
      have : some n = some (i + ((0 : Nat) : Int)) := h0
      have := Option.some.inj this
      omega
    have ih := vq_rl_row B (i + 1) M ns (by simpa [rf_args] using h) (fun k hk' => by
      have := hk (k + 1) (by rw [List.length_cons]; omega)
      rw [List.getElem?_cons_succ] at this
      rw [this]
      congr 1
      push_cast
      omega)
    rw [vq_row_in, ← ih, e0]
    rfl
theorem vq_sb_snoc {a X : rf_N} (h : vx_on a) : rf_snoc a X = vx_sb a X := by
  obtain ⟨k, h, F, rfl⟩ := h
  rfl
theorem vq_rl_snoc {A : rf_T} {n M : Int} : ∀ {As : List rf_T} {ns : List Int}, As.length = ns.length → vq_rl (As ++ [A]) (ns ++ [n]) M = rf_snoc (vq_rl As ns M) (vq_cv A n M)
  | [], [], _ => by
    show vx_sb (vq_cv A n M) .leaf = vq_cv A n M
    exact vx_sb_leaf (vq_cv_on A n M)
  | [], _ :: _, h => by cases h
  | _ :: _, [], h => by cases h
  | B :: As, m :: ns, h => by
    have ih := vq_rl_snoc (A := A) (n := n) (M := M) (As := As) (ns := ns) (by simpa using h)
    show vx_sb (vq_cv B m M) (vq_rl (As ++ [A]) (ns ++ [n]) M) = rf_snoc (vx_sb (vq_cv B m M) (vq_rl As ns M)) (vq_cv A n M)
    rw [ih, vx_sb_snoc (vq_cv_on B m M)]
/-! what counts of them is all -/
theorem vq_c_snoc (g : rf_N) : ∀ f : rf_N, vr_c (rf_snoc f g) = rf_snoc (vr_c f) (vr_c g)
  | .leaf => rfl
  | .inner j q u f x => by
    show (.inner j q () (vr_f q.1 f) (vr_c (rf_snoc x g)) : rf_N) = .inner j q () (vr_f q.1 f) (rf_snoc (vr_c x) (vr_c g))
    rw [vq_c_snoc g x]
theorem vq_1_c {n : rf_N} (h : vr_1 n = n) : vr_c n = n := by
  cases n with
  | leaf => rfl
  | inner j q u f x =>
    rw [vr_1_in] at h
    injection h with _ _ _ h4 h5
    rw [vr_c_in, h4, ← h5]
    rfl
theorem vq_1_ch {T : rf_N} (h : vr_1 T = T) : ∀ C : List (Nat × Int), vr_1 (rf_ch C T) = rf_ch C T
  | [] => h
  | c :: C => by
    show (.inner c.1 (0, c.2) () (vr_f 0 (rf_ch C T)) .leaf : rf_N) = .inner c.1 (0, c.2) () (rf_ch C T) .leaf
    rw [vr_f_0 rfl, vq_1_ch h C]
/-- a row of long forms of us; one of u -/
def vq_g (As : List rf_T) (us : List Int) (g : rf_N) : Prop := As.length = us.length ∧ vr_c g = g ∧ ∀ (th : Int → rf_N) (AR : Nat → List Int) (e : Int → Int) (M : Int), (∀ m, vx_on (th m)) → vx_val th AR g e M = vq_rl As (us.map e) M
def vq_n (A : rf_T) (u : Int) (n : rf_N) : Prop := vr_1 n = n ∧ ∀ (th : Int → rf_N) (AR : Nat → List Int) (e : Int → Int) (M : Int), (∀ m, vx_on (th m)) → vx_val th AR n e M = vq_cv A (e u) M
theorem vq_g_0 : vq_g [] [] .leaf := ⟨rfl, rfl, fun _ _ _ _ _ => rfl⟩
theorem vq_g_s {As : List rf_T} {us : List Int} {g : rf_N} {A : rf_T} {u : Int} {n : rf_N} (h : vq_g As us g) (hn : vq_n A u n) : vq_g (As ++ [A]) (us ++ [u]) (rf_snoc g n) := by
  obtain ⟨h1, h3, h2⟩ := h
  refine ⟨by rw [List.length_append, List.length_append, h1]; rfl, by rw [vq_c_snoc, h3, vq_1_c hn.1], fun th AR e M hg => ?_⟩
  rw [vx_val_snoc hg, h2 th AR e M hg, hn.2 th AR e M hg, List.map_append]
  exact (vq_rl_snoc (by rw [List.length_map, h1])).symm
theorem vq_ch {th : Int → rf_N} {AR : Nat → List Int} {T : rf_N} : ∀ {C : List (Nat × Int)} {e : Int → Int} {L : Int}, vx_val th AR (rf_ch C T) e L = vq_lm C.length (vx_val th AR T (vq_up (C.map Prod.snd) L e) (L + (C.length : Int)))
  | [], e, L => by
    show vx_val th AR T e L = vx_val th AR T e (L + ((0 : Nat) : Int))
    rw [show L + ((0 : Nat) : Int) = L by omega]
  | c :: C, e, L => by
    have ih := vq_ch (th := th) (AR := AR) (T := T) (C := C) (e := vx_up e c.2 L) (L := L + 1)
    show vx_val th AR (rf_n c.1 0 c.2 (rf_ch C T) .leaf) e L = _
    rw [vx_val_in, if_pos rfl]
    show rf_n 0 0 0 (vx_val th AR (rf_ch C T) (vx_up e c.2 L) (L + 1)) .leaf = rf_n 0 0 0 (vq_lm C.length (vx_val th AR T (vq_up (C.map Prod.snd) (L + 1) (vx_up e c.2 L)) (L + ((C.length + 1 : Nat) : Int)))) .leaf
    rw [ih, show L + 1 + (C.length : Int) = L + ((C.length + 1 : Nat) : Int) by push_cast; omega]
/-- an unknown's node stands in it -/
def vq_oc : rf_N → Nat → Int → Prop
  | .leaf, _, _ => False
  | .inner j k _ f x, i, m => (k.1 = 3 ∧ j = i ∧ k.2 = m) ∨ vq_oc f i m ∨ vq_oc x i m
theorem vq_oc_ch {T : rf_N} {i : Nat} {m : Int} (h : vq_oc T i m) : ∀ C : List (Nat × Int), vq_oc (rf_ch C T) i m
  | [] => h
  | _ :: C => Or.inr (Or.inl (vq_oc_ch h C))
theorem vq_oc_sn {g : rf_N} {i : Nat} {m : Int} : ∀ {f : rf_N}, vq_oc f i m → vq_oc (rf_snoc f g) i m
  | .leaf, h => h.elim
  | .inner _ _ _ _ _, h => by
    rcases h with h | h | h
    · exact Or.inl h
    · exact Or.inr (Or.inl h)
    · exact Or.inr (Or.inr (vq_oc_sn h))
/-- what close makes of a head (k, h) with ARGs f0; of an unknown with the variables vs -/
def vq_z (x : rf_T) (k h : Int) (f0 : rf_N) (i0 : Int) (n : rf_N) : Prop := ∃ us : List Int, us.length = (rf_args x).length ∧ us.Nodup ∧ (∀ c ∈ us, i0 ≤ c) ∧ (vr_c f0 = f0 → vr_1 n = n) ∧ (∀ i m, vq_oc f0 i m → vq_oc n i m) ∧ ∀ (th : Int → rf_N) (AR : Nat → List Int) (e : Int → Int) (L : Int), (∀ m, vx_on (th m)) → vx_val th AR n e L = vq_lm us.length (rf_n 0 k (if k = 2 then vq_up us L e h else h) (rf_snoc (vx_val th AR f0 (vq_up us L e) (L + (us.length : Int))) (vq_row x L (L + (us.length : Int)))) .leaf)
def vq_y (x : rf_T) (h : Int) (vs : List Int) (i0 : Int) (j : Nat) (ws : List Int) (n : rf_N) : Prop := ∃ us : List Int, us.length = (rf_args x).length ∧ us.Nodup ∧ (∀ c ∈ us, i0 ≤ c) ∧ ws = vs ++ us ∧ vr_1 n = n ∧ vq_oc n j h ∧ ∀ (th : Int → rf_N) (AR : Nat → List Int) (e : Int → Int) (L : Int), (∀ m, vx_on (th m)) → AR j = ws → vx_val th AR n e L = vq_lm us.length (vx_re (vx_ix (ws.map (vq_up us L e)) (L + (us.length : Int))) (th h))
theorem vq_z_mk {x : rf_T} {i : Nat} {k h : Int} {f0 g : rf_N} {i0 : Int} {C : List (Nat × Int)} (k0 : k ≠ 0) (k3 : k ≠ 3) (hg : vq_g (rf_args x) (C.map Prod.snd) g) (hn : (C.map Prod.snd).Nodup) (hi : ∀ c ∈ C.map Prod.snd, i0 ≤ c) : vq_z x k h f0 i0 (rf_ch C (rf_n i k h (rf_snoc f0 g) .leaf)) := by
  obtain ⟨h1, h0, h2⟩ := hg
  have hl : (C.map Prod.snd).length = C.length := List.length_map _
  refine ⟨C.map Prod.snd, h1.symm, hn, hi, fun q => vq_1_ch (T := rf_n i k h (rf_snoc f0 g) .leaf) (by
    show (.inner i (k, h) () (vr_f k (rf_snoc f0 g)) .leaf : rf_N) = .inner i (k, h) () (rf_snoc f0 g) .leaf
    unfold vr_f
    rw [if_neg k0, if_neg k3, vq_c_snoc, q, h0]) C, fun a b q => vq_oc_ch (show vq_oc (rf_n i k h (rf_snoc f0 g) .leaf) a b from Or.inr (Or.inl (vq_oc_sn q))) C, fun th AR e L hon => ?_⟩
  rw [vq_ch, hl, vx_val_in, if_neg k0, if_neg k3, vx_val_snoc hon, h2 th AR _ _ hon, vq_rl_row x L (L + (C.length : Int)) _ (by rw [List.length_map, h1]) (fun q hq => vq_up_map hn L e q (by rw [List.length_map] at hq; exact hq))]
  rfl
theorem vq_y_mk {x : rf_T} {i : Nat} {h : Int} {F : rf_N} {vs ws : List Int} {i0 : Int} {C : List (Nat × Int)} (hl : C.length = (rf_args x).length) (hn : (C.map Prod.snd).Nodup) (hi : ∀ c ∈ C.map Prod.snd, i0 ≤ c) (hw : ws = vs ++ C.map Prod.snd) (hF : F = .leaf) : vq_y x h vs i0 i ws (rf_ch C (rf_n i 3 h F .leaf)) := by
  have hl' : (C.map Prod.snd).length = C.length := List.length_map _
  refine ⟨C.map Prod.snd, by rw [hl', hl], hn, hi, hw, vq_1_ch (T := rf_n i 3 h F .leaf) (by rw [hF]; rfl) C, vq_oc_ch (show vq_oc (rf_n i 3 h F .leaf) i h from Or.inl ⟨rfl, rfl, rfl⟩) C, fun th AR e L hon ha => ?_⟩
  rw [vq_ch, hl', vx_call hon, ha]
theorem vq_n_mk {A : rf_T} {v : Int} {i0 : Int} {n : rf_N} (h : vq_z A 2 v .leaf i0 n) (hv : v < i0) : vq_n A v n := by
  obtain ⟨us, h1, h2, h3, h5, _, h4⟩ := h
  refine ⟨h5 rfl, fun th AR e L hon => ?_⟩
  rw [h4 th AR e L hon, if_pos rfl, vq_up_no (fun q => by have := h3 v q; omega), h1]
  rfl
/-! the long forms of 66a -/
theorem vq_c1 {TV : Int → qx_T → Prop} : ∀ {x : qx_T} {W : rf_N} {k h : Int} {F : rf_N} {ρ : List Int}, k ≠ 0 → k ≠ 3 → vl_c1 TV x W k h F ρ → ∃ us : List Int, us.length = (rf_args (qx_sh x)).length ∧ us.Nodup ∧ (∀ c ∈ us, c ∉ ρ) ∧ ∀ (th : Int → rf_N) (AR : Nat → List Int) (e : Int → Int) (L : Int), (∀ m, vx_on (th m)) → vx_val th AR W e L = vq_lm us.length (rf_n 0 k (if k = 2 then vq_up us L e h else h) (rf_snoc (vx_val th AR F (vq_up us L e) (L + (us.length : Int))) (vq_row (qx_sh x) L (L + (us.length : Int)))) .leaf)
  | .leaf, W, k, h, F, ρ, k0, k3, hh => by
    obtain ⟨j, rfl⟩ := hh
    refine ⟨[], rfl, List.nodup_nil, fun c hc => absurd hc List.not_mem_nil, fun th AR e L hon => ?_⟩
    rw [vx_val_in, if_neg k0, if_neg k3]
    show rf_n 0 k _ _ _ = rf_n 0 k (if k = 2 then e h else h) (rf_snoc (vx_val th AR F e (L + ((0 : Nat) : Int))) .leaf) .leaf
    rw [rf_snoc_leaf, show L + ((0 : Nat) : Int) = L by omega]
    rfl
  | .inner n b u x y, W, k, h, F, ρ, k0, k3, hh => by
    rcases hh with ⟨hb, j, rfl⟩ | ⟨⟨hb, hn⟩, j, v, g, W', rfl, ⟨v1, v2, v3⟩, sg, c1, c2⟩
    · subst hb
      refine ⟨[], rfl, List.nodup_nil, fun c hc => absurd hc List.not_mem_nil, fun th AR e L hon => ?_⟩
      rw [vx_val_in, if_neg k0, if_neg k3]
      show rf_n 0 k _ _ _ = rf_n 0 k (if k = 2 then e h else h) (rf_snoc (vx_val th AR F e (L + ((0 : Nat) : Int))) .leaf) .leaf
      rw [rf_snoc_leaf, show L + ((0 : Nat) : Int) = L by omega]
      rfl
    · subst hb
      obtain ⟨ug, g1, g2, g3, g4⟩ := vq_c1 (by decide) (by decide) c1
      obtain ⟨us, s1, s2, s3, s4⟩ := vq_c1 k0 k3 c2
      have hgn : ∀ (th : Int → rf_N) (AR : Nat → List Int) (e : Int → Int) (M : Int), (∀ m, vx_on (th m)) → vx_val th AR g e M = vq_cv (qx_sh x) (e v) M := fun th AR e L hon => by
        rw [g4 th AR e L hon, if_pos rfl, vq_up_no (fun q => g3 v q List.mem_cons_self), g1]
        rfl
      have hvu : v ∉ us := fun q => s3 v q List.mem_cons_self
      refine ⟨v :: us, ?_, List.nodup_cons.mpr ⟨hvu, s2⟩, fun c hc q => ?_, fun th AR e L hon => ?_⟩
      · show us.length + 1 = (rf_args (rf_a (qx_sh x) (qx_sh y))).length
        rw [s1]
        rfl
      · rcases List.mem_cons.mp hc with rfl | hc
        · exact v1 q
        · exact s3 c hc (List.mem_cons_of_mem _ q)
      · rw [vx_val_in, if_pos rfl]
        show rf_n 0 0 0 (vx_val th AR W' (vx_up e v L) (L + 1)) .leaf = rf_n 0 0 0 (vq_lm us.length (rf_n 0 k (if k = 2 then vq_up us (L + 1) (vx_up e v L) h else h) (rf_snoc (vx_val th AR F (vq_up us (L + 1) (vx_up e v L)) (L + ((us.length + 1 : Nat) : Int))) (vx_sb (vq_cv (qx_sh x) L (L + ((us.length + 1 : Nat) : Int))) (vq_row (qx_sh y) (L + 1) (L + ((us.length + 1 : Nat) : Int))))) .leaf)) .leaf
        rw [s4 th AR (vx_up e v L) (L + 1) hon, show L + 1 + (us.length : Int) = L + ((us.length + 1 : Nat) : Int) by push_cast; omega, vx_val_snoc hon, hgn th AR _ _ hon, vq_up_no hvu, rf_snoc_assoc, vq_sb_snoc (vq_cv_on _ _ _)]
        have e1 : vx_up e v L v = L := if_pos rfl
        rw [e1]
theorem vq_c3 {TV : Int → qx_T → Prop} {AR : Nat → List Int} : ∀ {x : qx_T} {W : rf_N} {h : Int} {vs ρ : List Int}, vl_c3 TV AR x W h vs ρ → ∃ us : List Int, us.length = (rf_args (qx_sh x)).length ∧ us.Nodup ∧ (∀ c ∈ us, c ∉ ρ) ∧ ∀ (th : Int → rf_N) (e : Int → Int) (L : Int), (∀ m, vx_on (th m)) → vx_val th AR W e L = vq_lm us.length (vx_re (vx_ix ((vs ++ us).map (vq_up us L e)) (L + (us.length : Int))) (th h))
  | .leaf, W, h, vs, ρ, hh => by
    obtain ⟨j, F, rfl, ha⟩ := hh
    refine ⟨[], rfl, List.nodup_nil, fun c hc => absurd hc List.not_mem_nil, fun th e L hon => ?_⟩
    rw [vx_call hon, ha, List.append_nil]
    show _ = vx_re (vx_ix (vs.map e) (L + ((0 : Nat) : Int))) (th h)
    rw [show L + ((0 : Nat) : Int) = L by omega]
  | .inner n b u x y, W, h, vs, ρ, hh => by
    rcases hh with ⟨hb, j, F, rfl, ha⟩ | ⟨⟨hb, hn⟩, j, v, W', rfl, ⟨v1, v2, v3⟩, c2⟩
    · subst hb
      refine ⟨[], rfl, List.nodup_nil, fun c hc => absurd hc List.not_mem_nil, fun th e L hon => ?_⟩
      rw [vx_call hon, ha, List.append_nil]
      show _ = vx_re (vx_ix (vs.map e) (L + ((0 : Nat) : Int))) (th h)
      rw [show L + ((0 : Nat) : Int) = L by omega]
    · subst hb
      obtain ⟨us, s1, s2, s3, s4⟩ := vq_c3 c2
      have hvu : v ∉ us := fun q => s3 v q List.mem_cons_self
      refine ⟨v :: us, ?_, List.nodup_cons.mpr ⟨hvu, s2⟩, fun c hc q => ?_, fun th e L hon => ?_⟩
      · show us.length + 1 = (rf_args (rf_a (qx_sh x) (qx_sh y))).length
        rw [s1]
        rfl
      · rcases List.mem_cons.mp hc with rfl | hc
        · exact v1 q
        · exact s3 c hc (List.mem_cons_of_mem _ q)
      · rw [vx_val_in, if_pos rfl]
        show rf_n 0 0 0 (vx_val th AR W' (vx_up e v L) (L + 1)) .leaf = rf_n 0 0 0 (vq_lm us.length (vx_re (vx_ix ((vs ++ v :: us).map (vq_up us (L + 1) (vx_up e v L))) (L + ((us.length + 1 : Nat) : Int))) (th h))) .leaf
        rw [s4 th (vx_up e v L) (L + 1) hon, show L + 1 + (us.length : Int) = L + ((us.length + 1 : Nat) : Int) by push_cast; omega, List.append_assoc]
        rfl
