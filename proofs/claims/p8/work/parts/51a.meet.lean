/-! ===== narrowing while a pair is being looked at; what an open unknown twice is ===== -/
/-- more is known, the pair stays -/
theorem vx_J_nw {S T : vx_S} {n0 : Int} {Q : (Int → rf_N) → Prop} {p : vx_P} {pend : List vx_P} (h : vx_J S n0 Q (p :: pend)) (hW : vx_W S) (hle : vx_le S T) (hQ : ∀ th th', vx_ag n0 th th' → Q th → Q th') (hin : ∀ q ∈ p :: pend, vx_in S q.1.1 ∧ vx_in S q.2.1.1) (hE : ∀ th, vx_So S th → Q th → vx_pe th S.2.2.2.2 p → ∃ th', vx_So T th' ∧ vx_ag S.1 th th') : vx_J T n0 Q (p :: pend) := by
  obtain ⟨h1, h2, h3, h4⟩ := h
  have eq : ∀ th q, q ∈ p :: pend → (vx_pe th T.2.2.2.2 q ↔ vx_pe th S.2.2.2.2 q) := fun th q hq => by
    unfold vx_pe
    rw [vx_val_le hle (hin q hq).1, vx_val_le hle (hin q hq).2]
  refine ⟨fun th hT hq => h1 th (vx_So_le hW hle hT) (fun r hr => (eq th r hr).mp (hq r hr)), fun th hT hQ' r hr => (eq th r hr).mpr (h2 th (vx_So_le hW hle hT) hQ' r hr), by have := hle.1.1; omega, fun th0 g0 s0 q0 => ?_⟩
  obtain ⟨th, hS, ha⟩ := h4 th0 g0 (fun u u0 hu => by rw [← hle.2.1 u u0 (by omega)]; exact s0 u u0 hu) q0
  have hq := hQ _ _ ha q0
  obtain ⟨th', hT, ha'⟩ := hE th hS hq (h2 th hS hq p List.mem_cons_self)
  exact ⟨th', hT, fun u u0 hu => (ha' u u0 (by omega)).trans (ha u u0 hu)⟩
/-- after a narrowing only the kept ARGs are used -/
theorem vx_nw_us {S T : vx_S} {x : Int} {j : Nat} {F : rf_N} {eu : Int → Int} {zs ks : List Int} {th : Int → rf_N} (h : vx_nw S T x j F eu zs ks) (hT : vx_So T th) : ∀ v, vx_oc v (th x) → v < S.2.2.1 x → v ∈ ks := fun v hv hl => by
  obtain ⟨⟨a1, a2, a3, a4, a5⟩, ⟨b1, b2, b3, b4⟩, c, d, f, g1, g2, g3, g4, g5⟩ := h
  have hb : T.2.2.2.1 x = some (rf_n j 3 S.1 F .leaf, eu) := by rw [d, if_pos rfl]
  have e1 := hT.2.2 x _ _ hb
  have ax : T.2.2.1 x = S.2.2.1 x := by rw [c, if_neg (by omega)]
  rw [e1] at hv
  rcases vx_oc_fv hT.1 hv with ⟨z, z1, z2⟩ | z
  · rcases z1 with (⟨y, _⟩ | ⟨_, i, i1, _⟩ | ⟨_, y, _⟩) | y
    · exact absurd y vx_30
    · rw [← z2, ← g2, ← g1]
      exact List.mem_map_of_mem (List.mem_of_getElem? i1)
    · exact absurd rfl y
    · exact y.elim
  · rw [ax] at z
    omega
/-- an open unknown before two rows: it has those ARGs alone in which they agree -/
theorem vx_J_meet {S T : vx_S} {n0 L u : Int} {Q : (Int → rf_N) → Prop} {j j' jn : Nat} {F F' Fn : rf_N} {e d eu : Int → Int} {zs ks : List Int} {pend : List vx_P} (h : vx_J S n0 Q (((rf_n j 3 u F .leaf, e), (rf_n j' 3 u F' .leaf, d), L) :: pend)) (hW : vx_W S) (hn : vx_nw S T u jn Fn eu zs ks) (hQ : ∀ th th', vx_ag n0 th th' → Q th → Q th') (hin : ∀ q ∈ ((rf_n j 3 u F .leaf, e), (rf_n j' 3 u F' .leaf, d), L) :: pend, vx_in S q.1.1 ∧ vx_in S q.2.1.1) (hk : ∀ i : Nat, (i : Int) < S.2.2.1 u → ((i : Int) ∈ ks ↔ ((S.2.2.2.2 j).map e)[i]? = ((S.2.2.2.2 j').map d)[i]?)) : vx_J T n0 Q pend := by
  have hle := vx_nw_le hn
  have len : ∀ (j : Nat) (F : rf_N), vx_in S (rf_n j 3 u F .leaf) → ((S.2.2.2.2 j).length : Int) = S.2.2.1 u := fun j F hi => by
    rcases hi.2.2.1 with ⟨z, _⟩ | ⟨_, z⟩
    · have z' : (3 : Int) = 0 ∨ (3 : Int) = 1 ∨ (3 : Int) = 2 := z
      omega
    · exact z
  have hi := hin _ List.mem_cons_self
  have l1 := len j F hi.1
  have l2 := len j' F' hi.2
  have hl : ((S.2.2.2.2 j).map e).length = ((S.2.2.2.2 j').map d).length := by
    rw [List.length_map, List.length_map]
    omega
  have ej : T.2.2.2.2 j = S.2.2.2.2 j := hle.2.2.2 j (hi.1.2.1 j List.mem_cons_self)
  have ej' : T.2.2.2.2 j' = S.2.2.2.2 j' := hle.2.2.2 j' (hi.2.2.1 j' List.mem_cons_self)
  refine vx_J_le h hW hle hQ hin (fun th hT => ?_) (fun th hS hq hp => vx_nw_So hn hW hS (fun v hv hl' => ?_))
  · show vx_val th T.2.2.2.2 (rf_n j 3 u F .leaf) e L = vx_val th T.2.2.2.2 (rf_n j' 3 u F' .leaf) d L
    rw [vx_call (fun m => (hT.1 m).1), vx_call (fun m => (hT.1 m).1), ej, ej']
    refine (vx_same hT.1 hl).mpr (fun i hi' ho => ?_)
    rw [List.length_map] at hi'
    exact (hk i (by omega)).mp (vx_nw_us hn hT i ho (by omega))
  · have hp' : vx_val th S.2.2.2.2 (rf_n j 3 u F .leaf) e L = vx_val th S.2.2.2.2 (rf_n j' 3 u F' .leaf) d L := hp
    rw [vx_call (fun m => (hS.1 m).1), vx_call (fun m => (hS.1 m).1)] at hp'
    have v0 := (hS.1 u).2 v hv
    have := (vx_same hS.1 hl).mp hp' v.toNat (by rw [List.length_map]; omega) (by rw [Int.toNat_of_nonneg v0]; exact hv)
    have := (hk v.toNat (by omega)).mpr this
    rw [Int.toNat_of_nonneg v0] at this
    exact this
/-- both calls have the same ARGs: nothing is to be done -/
theorem vx_J_same {S : vx_S} {n0 L u : Int} {Q : (Int → rf_N) → Prop} {j j' : Nat} {F F' : rf_N} {e d : Int → Int} {pend : List vx_P} (h : vx_J S n0 Q (((rf_n j 3 u F .leaf, e), (rf_n j' 3 u F' .leaf, d), L) :: pend)) (hk : (S.2.2.2.2 j).map e = (S.2.2.2.2 j').map d) : vx_J S n0 Q pend := by
  have := vx_J_rep (ps := []) h (fun th hS => ⟨fun _ _ hq => absurd hq List.not_mem_nil, fun _ => ?_⟩)
  · exact this
  · show vx_val th S.2.2.2.2 (rf_n j 3 u F .leaf) e L = vx_val th S.2.2.2.2 (rf_n j' 3 u F' .leaf) d L
    rw [vx_call (fun m => (hS.1 m).1), vx_call (fun m => (hS.1 m).1), hk]
/-! ===== the walk through the other side, with what every solution asks ===== -/
/-- every solution of the pair p: what is still to be walked through may have only what is allowed, and is smaller than the root -/
def vx_Kn (S : vx_S) (al : Int → Prop) (p : vx_P) (root : rf_N × (Int → Int)) (pend : List (rf_N × (Int → Int))) : Prop := ∀ th, vx_So S th → vx_pe th S.2.2.2.2 p → ∀ c ∈ pend, vx_OK (vx_us th) S.2.2.2.2 al c ∧ (c.1 = root.1 ∨ vx_zz th c.1 < vx_zz th root.1)
/-- the root is what the unknown must be -/
theorem vx_Kn_0 {S : vx_S} {al : Int → Prop} {L u : Int} {j : Nat} {F B : rf_N} {e d : Int → Int} (hx : ∀ x ∈ (S.2.2.2.2 j).map e, al x) (hL : ∀ x, L ≤ x → al x) : vx_Kn S al ((rf_n j 3 u F .leaf, e), (B, d), L) (B, d) [(B, d)] := fun th hS hp c hc => by
  rw [List.mem_singleton.mp hc]
  refine ⟨fun z hz => ?_, Or.inl rfl⟩
  have hp' : vx_val th S.2.2.2.2 (rf_n j 3 u F .leaf) e L = vx_val th S.2.2.2.2 B d L := hp
  have h1 := vx_fv_oc hS.1 (e := d) (L := L) hz
  rw [← hp', vx_call (fun m => (hS.1 m).1)] at h1
  obtain ⟨v, v1, v2⟩ := vx_oc_re.mp h1
  have v0 := (hS.1 u).2 v v1
  show al (d z)
  rw [← v2]
  unfold vx_ix
  by_cases hl : v < (((S.2.2.2.2 j).map e).length : Int)
  · rw [if_pos hl]
    have hi : v.toNat < ((S.2.2.2.2 j).map e).length := by omega
    rw [vx_gD hi]
    exact hx _ (List.getElem_mem hi)
  · rw [if_neg hl]
    exact hL _ (by omega)
theorem vx_Kn_lam {S : vx_S} {al : Int → Prop} {p : vx_P} {root : rf_N × (Int → Int)} {pend : List (rf_N × (Int → Int))} {j : Nat} {x L : Int} {F : rf_N} {e : Int → Int} (hL : al L) (h : vx_Kn S al p root ((rf_n j 0 x F .leaf, e) :: pend)) : vx_Kn S al p root ((F, vx_up e x L) :: pend) := fun th hS hp c hc => by
  rcases List.mem_cons.mp hc with rfl | hc
  · obtain ⟨h1, h2⟩ := h th hS hp _ List.mem_cons_self
    refine ⟨(vx_OK_lam hL).mp h1, Or.inr ?_⟩
    have h3 := vx_zz_lam (th := th) (j := j) (x := x) (F := F)
    rcases h2 with h2 | h2
    · rw [← h2]
      exact h3
    · exact Nat.lt_trans h3 h2
  · exact h th hS hp c (List.mem_cons_of_mem _ hc)
theorem vx_Kn_rig {S : vx_S} {al : Int → Prop} {p : vx_P} {root : rf_N × (Int → Int)} {pend : List (rf_N × (Int → Int))} {j : Nat} {k h : Int} {F : rf_N} {e : Int → Int} (h0 : k ≠ 0) (h3 : k ≠ 3) (hh : vx_Kn S al p root ((rf_n j k h F .leaf, e) :: pend)) : vx_Kn S al p root ((vx_el F).map (fun A => (A, e)) ++ pend) := fun th hS hp c hc => by
  rcases List.mem_append.mp hc with hc | hc
  · obtain ⟨A, hA, rfl⟩ := List.mem_map.mp hc
    obtain ⟨h1, h2⟩ := hh th hS hp _ List.mem_cons_self
    refine ⟨((vx_OK_rig h0 h3).mp h1).2 A hA, Or.inr ?_⟩
    have h4 := vx_zz_lt (th := th) (j := j) (h := h) h3 hA
    rcases h2 with h2 | h2
    · rw [← h2]
      exact h4
    · exact Nat.lt_trans h4 h2
  · exact hh th hS hp c (List.mem_cons_of_mem _ hc)
theorem vx_Kn_drop {S : vx_S} {al : Int → Prop} {p : vx_P} {root c : rf_N × (Int → Int)} {pend : List (rf_N × (Int → Int))} (h : vx_Kn S al p root (c :: pend)) : vx_Kn S al p root pend := fun th hS hp d hd => h th hS hp d (List.mem_cons_of_mem _ hd)
theorem vx_Kn_body {S : vx_S} {al : Int → Prop} {p : vx_P} {root : rf_N × (Int → Int)} {pend : List (rf_N × (Int → Int))} {j : Nat} {m : Int} {F B : rf_N} {e em e' : Int → Int} (hr : root.1 ≠ rf_n j 3 m F .leaf) (hb : S.2.2.2.1 m = some (B, em)) (hP : ∀ z, 0 ≤ em z → e' z = ((S.2.2.2.2 j).map e).getD (em z).toNat (-1)) (hl : ∀ z, em z < ((S.2.2.2.2 j).length : Int)) (h : vx_Kn S al p root ((rf_n j 3 m F .leaf, e) :: pend)) : vx_Kn S al p root ((B, e') :: pend) := fun th hS hp c hc => by
  rcases List.mem_cons.mp hc with rfl | hc
  · obtain ⟨h1, h2⟩ := h th hS hp _ List.mem_cons_self
    refine ⟨vx_K_body hS hb hP hl h1, Or.inr ?_⟩
    rcases h2 with h2 | h2
    · exact absurd h2.symm hr
    · have h3 : vx_zz th (rf_n j 3 m F .leaf) < vx_zz th root.1 := h2
      rw [vx_zz_call, vx_zz_body hS hb] at h3
      exact h3
  · exact h th hS hp c (List.mem_cons_of_mem _ hc)
theorem vx_Kn_le {S T : vx_S} {al : Int → Prop} {p : vx_P} {root : rf_N × (Int → Int)} {pend : List (rf_N × (Int → Int))} (hW : vx_W S) (hle : vx_le S T) (hin : vx_in S p.1.1 ∧ vx_in S p.2.1.1) (hp : ∀ c ∈ pend, vx_in S c.1) (h : vx_Kn S al p root pend) : vx_Kn T al p root pend := fun th hT ht c hc => by
  have hS := vx_So_le hW hle hT
  have ht' : vx_pe th S.2.2.2.2 p := by
    unfold vx_pe at ht ⊢
    rw [vx_val_le hle hin.1, vx_val_le hle hin.2] at ht
    exact ht
  obtain ⟨h1, h2⟩ := h th hS ht' c hc
  refine ⟨fun z hz => h1 z ((vx_fv_ar (fun j hj => hle.2.2.2 j ((hp c hc).2.1 j hj))).mp hz), h2⟩
/-- a variable that is not allowed: no solution -/
theorem vx_Kn_var {S : vx_S} {al : Int → Prop} {p : vx_P} {root : rf_N × (Int → Int)} {pend : List (rf_N × (Int → Int))} {j : Nat} {h : Int} {F : rf_N} {e : Int → Int} (hh : vx_Kn S al p root ((rf_n j 2 h F .leaf, e) :: pend)) (ha : ¬ al (e h)) : ∀ th, vx_So S th → ¬ vx_pe th S.2.2.2.2 p := fun th hS hp => by
  obtain ⟨h1, _⟩ := hh th hS hp _ List.mem_cons_self
  exact ha (((vx_OK_rig (by decide) (by decide)).mp h1).1 rfl)
/-- the unknown stands in what it must be: no solution -/
theorem vx_Kn_self {S : vx_S} {al : Int → Prop} {L u : Int} {j j' : Nat} {F F' B : rf_N} {e d e' : Int → Int} {pend : List (rf_N × (Int → Int))} (hr : ∀ j F, B ≠ rf_n j 3 u F .leaf) (hh : vx_Kn S al ((rf_n j 3 u F .leaf, e), (B, d), L) (B, d) ((rf_n j' 3 u F' .leaf, e') :: pend)) : ∀ th, vx_So S th → ¬ vx_pe th S.2.2.2.2 ((rf_n j 3 u F .leaf, e), (B, d), L) := fun th hS hp => by
  obtain ⟨_, h2⟩ := hh th hS hp _ List.mem_cons_self
  rcases h2 with h2 | h2
  · exact hr _ _ h2.symm
  · have h3 : vx_zz th (rf_n j' 3 u F' .leaf) < vx_zz th B := h2
    rw [vx_zz_call] at h3
    have hp' : vx_val th S.2.2.2.2 (rf_n j 3 u F .leaf) e L = vx_val th S.2.2.2.2 B d L := hp
    have h4 := congrArg vx_sz hp'
    rw [vx_sz_val (fun m => (hS.1 m).1), vx_sz_val (fun m => (hS.1 m).1), vx_zz_call] at h4
    omega
/-- a narrowing on the walk: the unknown m at the top has ARGs that are not allowed -/
theorem vx_Kn_nw {S T : vx_S} {n0 : Int} {Q : (Int → rf_N) → Prop} {al : Int → Prop} {p : vx_P} {ps : List vx_P} {root : rf_N × (Int → Int)} {pend : List (rf_N × (Int → Int))} {j jn : Nat} {m : Int} {F Fn : rf_N} {e eu : Int → Int} {zs ks : List Int} (hJ : vx_J S n0 Q (p :: ps)) (hW : vx_W S) (hn : vx_nw S T m jn Fn eu zs ks) (hQ : ∀ th th', vx_ag n0 th th' → Q th → Q th') (hin : ∀ q ∈ p :: ps, vx_in S q.1.1 ∧ vx_in S q.2.1.1) (hl : ((S.2.2.2.2 j).length : Int) = S.2.2.1 m) (hk : ∀ (i : Nat) z, (S.2.2.2.2 j)[i]? = some z → al (e z) → (i : Int) ∈ ks) (h : vx_Kn S al p root ((rf_n j 3 m F .leaf, e) :: pend)) : vx_J T n0 Q (p :: ps) := by
  refine vx_J_nw hJ hW (vx_nw_le hn) hQ hin (fun th hS hq hp => vx_nw_So hn hW hS (fun v hv hv' => ?_))
  obtain ⟨h1, _⟩ := h th hS hp _ List.mem_cons_self
  have v0 := (hS.1 m).2 v hv
  have hi : v.toNat < (S.2.2.2.2 j).length := by omega
  have h2 := vx_OK_call.mp h1 v.toNat _ (List.getElem?_eq_getElem hi) (by
    show vx_oc ((v.toNat : Nat) : Int) (th m)
    rw [Int.toNat_of_nonneg v0]
    exact hv)
  have h3 := hk _ _ (List.getElem?_eq_getElem hi) h2
  rw [Int.toNat_of_nonneg v0] at h3
  exact h3
