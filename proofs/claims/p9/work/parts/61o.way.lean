/-! ===== the unknowns gone through on the way down: what may still be needed ===== -/
def vx_wu (S : vx_S) (w : List Int) (A : rf_N) : Prop := True → (∀ m ∈ w, ∃ p, S.2.2.2.1 m = some p) ∧ ∀ rk, vx_rk S rk → w.Pairwise (fun a b => rk a < rk b) ∧ ∀ m ∈ w, vx_bl rk (rk m) A
theorem vx_wu_nil (S : vx_S) (A : rf_N) : vx_wu S [] A := fun _ => ⟨fun _ h => absurd h List.not_mem_nil, fun _ _ => ⟨List.Pairwise.nil, fun _ h => absurd h List.not_mem_nil⟩⟩
theorem vx_wu_sub {S : vx_S} {w : List Int} {A A' : rf_N} (hm : ∀ m, vx_mt m A' → vx_mt m A) (h : vx_wu S w A) : vx_wu S w A' := fun _ => by
  obtain ⟨h1, h2⟩ := h trivial
  exact ⟨h1, fun rk hr => ⟨(h2 rk hr).1, fun m hm' x hx => (h2 rk hr).2 m hm' x (hm x hx)⟩⟩
theorem vx_wu_in {S : vx_S} {w : List Int} {A B : rf_N} {m : Int} {e : Int → Int} (hb : S.2.2.2.1 m = some (B, e)) (hm : vx_mt m A) (h : vx_wu S w A) : vx_wu S (m :: w) B := fun _ => by
  obtain ⟨h1, h2⟩ := h trivial
  refine ⟨fun x hx => ?_, fun rk hr => ⟨List.pairwise_cons.mpr ⟨fun b hb' => (h2 rk hr).2 b hb' m hm, (h2 rk hr).1⟩, fun x hx y hy => ?_⟩⟩
  · rcases List.mem_cons.mp hx with rfl | hx
    · exact ⟨_, hb⟩
    · exact h1 x hx
  · have q := hr m B e y hb hy
    rcases List.mem_cons.mp hx with rfl | hx
    · exact q
    · have := (h2 rk hr).2 x hx m hm
      omega
theorem vx_wu_le {S T : vx_S} {w : List Int} {A : rf_N} (hle : vx_le S T) (h : vx_wu S w A) : vx_wu T w A := fun _ => by
  obtain ⟨h1, h2⟩ := h trivial
  refine ⟨fun m hm => ?_, fun rk hr => h2 rk (fun u B e m hb hm => hr u B e m (hle.2.2.1 u B e hb) hm)⟩
  obtain ⟨⟨B, e⟩, hp⟩ := h1 m hm
  exact ⟨(B, e), hle.2.2.1 m B e hp⟩
theorem vx_wu_nd {S : vx_S} {w : List Int} {A : rf_N} {rk : Int → Nat} (hr : vx_rk S rk) (hW : vx_W S) (h : vx_wu S w A) : w.Nodup ∧ ∀ m ∈ w, 0 ≤ m ∧ m < S.1 := by
  obtain ⟨h1, h2⟩ := h trivial
  refine ⟨List.Pairwise.imp (fun q e => by rw [e] at q; exact Nat.lt_irrefl _ q) (h2 rk hr).1, fun m hm => ?_⟩
  obtain ⟨⟨B, e⟩, hp⟩ := h1 m hm
  exact (hW m B e hp).1
/-- links and heads of what has been gone through -/
def vx_lc (S : vx_S) (w : List Int) : Nat := vx_ls (vx_aa S) w + 67 * vx_ls (vx_rw S) w
theorem vx_lc_bd {S : vx_S} {w : List Int} {A : rf_N} {rk : Int → Nat} (hr : vx_rk S rk) (hW : vx_W S) (hC : vx_CT S) (h : vx_wu S w A) : vx_ls (vx_aa S) w ≤ 50 ∧ vx_ls (vx_rw S) w ≤ 5 := by
  obtain ⟨n1, n2⟩ := vx_wu_nd hr hW h
  obtain ⟨c0, c1, c2, _⟩ := hC trivial
  have n3 : ∀ m ∈ w, 0 ≤ m ∧ m < ((S.1.toNat : Nat) : Int) := fun m hm => by
    have := n2 m hm
    omega
  have a := vx_ls_sm (f := vx_aa S) n1 n3
  have b := vx_ls_sm (f := vx_rw S) n1 n3
  omega
theorem vx_lc_le {S T : vx_S} {w : List Int} {A : rf_N} (hle : vx_le S T) (hW : vx_W S) (h : vx_wu S w A) : vx_ls (vx_aa T) w = vx_ls (vx_aa S) w ∧ vx_ls (vx_rw T) w = vx_ls (vx_rw S) w := by
  obtain ⟨h1, _⟩ := h trivial
  refine ⟨vx_ls_cg (fun m hm => ?_), vx_ls_cg (fun m hm => ?_)⟩
  · obtain ⟨⟨B, e⟩, hp⟩ := h1 m hm
    have := (hW m B e hp).1
    unfold vx_aa
    rw [hle.2.1 m this.1 this.2]
  · obtain ⟨⟨B, e⟩, hp⟩ := h1 m hm
    exact (vx_eq_bod (by rw [hp]; exact hle.2.2.1 m B e hp)).2
/-- a body that is a call has no \ and no head of its own -/
theorem vx_lh_body {S : vx_S} {m : Int} {B : rf_N} {e : Int → Int} (hC : vx_CT S) (hs : vx_sg B) (hb : S.2.2.2.1 m = some (B, e)) : vx_lh B ≤ 67 * vx_rw S m ∧ vx_hh B ≤ 26 * vx_rw S m ∧ vx_hz B ≤ 1024 := by
  obtain ⟨_, _, _, _, _, _, c6⟩ := hC trivial
  obtain ⟨l1, l2, l3⟩ := c6 m B e hb
  obtain ⟨j, k, h, F, rfl⟩ := hs
  by_cases q : k = 3
  · subst q
    rw [vx_lh_in, vx_hh_in, if_pos rfl, if_pos rfl]
    exact ⟨Nat.zero_le _, Nat.zero_le _, l3⟩
  · have : vx_rw S m = 1 := by
      unfold vx_rw
      rw [hb]
      exact if_neg q
    rw [this]
    omega
theorem vx_lh_call {j : Nat} {m : Int} {F : rf_N} : vx_lh (rf_n j 3 m F .leaf) = 0 ∧ vx_hh (rf_n j 3 m F .leaf) = 0 := by
  rw [vx_lh_in, vx_hh_in, if_pos rfl, if_pos rfl]
  exact ⟨rfl, rfl⟩
/-- a pair at place i of the pile, u links used -/
def vx_c2 (S : vx_S) (A B : rf_N) (u L : Int) (i : Nat) : Prop := True → ∃ wa wb, (vx_wu S wa A ∧ vx_wu S wb B) ∧ (vx_lh A ≤ 67 ∧ vx_hh A ≤ 26 ∧ vx_lh B ≤ 67 ∧ vx_hh B ≤ 26 ∧ vx_hz A ≤ 1024 ∧ vx_hz B ≤ 1024) ∧ (u + (vx_lh A : Int) + (vx_lh B : Int) ≤ 134 + (vx_lc S wa : Int) + (vx_lc S wb : Int)) ∧ (L + (vx_lh A : Int) ≤ 67 + 67 * (vx_ls (vx_rw S) wa : Int)) ∧ (i + 3 * vx_hh A ≤ 82 + 78 * vx_ls (vx_rw S) wa)
theorem vx_c2_bd {S : vx_S} {A B : rf_N} {u L : Int} {i : Nat} {rk : Int → Nat} (hr : vx_rk S rk) (hW : vx_W S) (hC : vx_CT S) (h : vx_c2 S A B u L i) : u + (vx_lh A : Int) + (vx_lh B : Int) ≤ 904 ∧ L + (vx_lh A : Int) ≤ 402 ∧ i + 3 * vx_hh A ≤ 472 := by
  obtain ⟨wa, wb, ⟨a1, a2⟩, _, b1, b2, b3⟩ := h trivial
  have c1 := vx_lc_bd hr hW hC a1
  have c2 := vx_lc_bd hr hW hC a2
  have d1 : vx_lc S wa ≤ 385 := by
    unfold vx_lc
    omega
  have d2 : vx_lc S wb ≤ 385 := by
    unfold vx_lc
    omega
  omega
theorem vx_c2_le {S T : vx_S} {A B : rf_N} {u L : Int} {i : Nat} (hle : vx_le S T) (hW : vx_W S) (h : vx_c2 S A B u L i) : vx_c2 T A B u L i := fun _ => by
  obtain ⟨wa, wb, ⟨a1, a2⟩, a3, b1, b2, b3⟩ := h trivial
  have e1 := vx_lc_le hle hW a1
  have e2 := vx_lc_le hle hW a2
  refine ⟨wa, wb, ⟨vx_wu_le hle a1, vx_wu_le hle a2⟩, a3, ?_, by rw [e1.2]; exact b2, by rw [e1.2]; exact b3⟩
  unfold vx_lc at b1 ⊢
  rw [e1.1, e1.2, e2.1, e2.2]
  exact b1
/-- a pair is taken -/
theorem vx_c2_rd {S : vx_S} {A B A' B' : rf_N} {c d c' d' : List (Int × Int)} {u u' L L' : Int} {i : Nat} (hd : vx_rd S A c B d L A' c' B' d' L') (hu : u' + (vx_lh A' : Int) + (vx_lh B' : Int) ≤ u + (vx_lh A : Int) + (vx_lh B : Int)) (hL : L' + (vx_lh A' : Int) ≤ L + (vx_lh A : Int)) (h : vx_c2 S A B u L i) : vx_c2 S A' B' u' L' i := fun _ => by
  obtain ⟨wa, wb, ⟨a1, a2⟩, a3, b1, b2, b3⟩ := h trivial
  obtain ⟨_, ⟨r1, r2, r3, r4, r7, r8⟩, r5, r6, _⟩ := hd trivial
  exact ⟨wa, wb, ⟨vx_wu_sub r5 a1, vx_wu_sub r6 a2⟩, ⟨by omega, by omega, by omega, by omega, by omega, by omega⟩, by omega, by omega, by omega⟩
/-- into a body on the left, on the right -/
theorem vx_c2_l {S : vx_S} {j : Nat} {m : Int} {F X B : rf_N} {e : Int → Int} {u u' L : Int} {i : Nat} (hC : vx_CT S) (hs : vx_sg X) (hb : S.2.2.2.1 m = some (X, e)) (hu : u' ≤ u + (vx_aa S m : Int)) (h : vx_c2 S (rf_n j 3 m F .leaf) B u L i) : vx_c2 S X B u' L i := fun _ => by
  obtain ⟨wa, wb, ⟨a1, a2⟩, ⟨a3, a4, a5, a6, a7, a8⟩, b1, b2, b3⟩ := h trivial
  obtain ⟨l1, l2, l5⟩ := vx_lh_body hC hs hb
  have l3 := vx_lh_call (j := j) (m := m) (F := F)
  have l4 := vx_rw_le S m
  rw [l3.1] at b1 b2
  rw [l3.2] at b3
  have e1 : vx_ls (vx_rw S) (m :: wa) = vx_rw S m + vx_ls (vx_rw S) wa := rfl
  have e2 : vx_ls (vx_aa S) (m :: wa) = vx_aa S m + vx_ls (vx_aa S) wa := rfl
  refine ⟨m :: wa, wb, ⟨vx_wu_in (A := rf_n j 3 m F .leaf) hb (Or.inl ⟨rfl, rfl⟩) a1, a2⟩, ⟨by omega, by omega, a5, a6, l5, a8⟩, ?_, by rw [e1]; omega, by rw [e1]; omega⟩
  unfold vx_lc at b1 ⊢
  rw [e1, e2]
  omega
theorem vx_c2_r {S : vx_S} {j : Nat} {m : Int} {F X A : rf_N} {e : Int → Int} {u u' L : Int} {i : Nat} (hC : vx_CT S) (hs : vx_sg X) (hb : S.2.2.2.1 m = some (X, e)) (hu : u' ≤ u + (vx_aa S m : Int)) (h : vx_c2 S A (rf_n j 3 m F .leaf) u L i) : vx_c2 S A X u' L i := fun _ => by
  obtain ⟨wa, wb, ⟨a1, a2⟩, ⟨a3, a4, a5, a6, a7, a8⟩, b1, b2, b3⟩ := h trivial
  obtain ⟨l1, l2, l5⟩ := vx_lh_body hC hs hb
  have l3 := vx_lh_call (j := j) (m := m) (F := F)
  have l4 := vx_rw_le S m
  rw [l3.1] at b1
  have e1 : vx_ls (vx_rw S) (m :: wb) = vx_rw S m + vx_ls (vx_rw S) wb := rfl
  have e2 : vx_ls (vx_aa S) (m :: wb) = vx_aa S m + vx_ls (vx_aa S) wb := rfl
  refine ⟨wa, m :: wb, ⟨a1, vx_wu_in (A := rf_n j 3 m F .leaf) hb (Or.inl ⟨rfl, rfl⟩) a2⟩, ⟨a3, a4, by omega, by omega, a7, l5⟩, ?_, b2, b3⟩
  unfold vx_lc at b1 ⊢
  rw [e1, e2]
  omega
/-- an ARG of both -/
theorem vx_c2_el {S : vx_S} {j j' : Nat} {k h k' h' : Int} {F F' A B : rf_N} {u L : Int} {i i' : Nat} (h0 : k ≠ 0) (h3 : k ≠ 3) (h0' : k' ≠ 0) (h3' : k' ≠ 3) (hA : A ∈ vx_el F) (hB : B ∈ vx_el F') (hi : i' ≤ i + 3) (h2 : vx_c2 S (rf_n j k h F .leaf) (rf_n j' k' h' F' .leaf) u L i) : vx_c2 S A B u L i' := fun _ => by
  obtain ⟨wa, wb, ⟨a1, a2⟩, ⟨a3, a4, a5, a6, a7, a8⟩, b1, b2, b3⟩ := h2 trivial
  obtain ⟨l1, l2⟩ := vx_lh_rig (j := j) (h := h) (F := F) h0 h3
  obtain ⟨l1', l2'⟩ := vx_lh_rig (j := j') (h := h') (F := F') h0' h3'
  obtain ⟨m1, m2⟩ := vx_lh_el hA
  obtain ⟨m1', m2'⟩ := vx_lh_el hB
  have z1 := vx_hz_el hA
  have z2 := vx_hz_el hB
  rw [vx_hz_lam h3] at a7
  rw [vx_hz_lam h3'] at a8
  rw [l1] at a3 b1 b2
  rw [l2] at a4 b3
  rw [l1'] at a5 b1
  rw [l2'] at a6
  refine ⟨wa, wb, ⟨vx_wu_sub (A := rf_n j k h F .leaf) (fun m hm => Or.inr (Or.inl ⟨h3, vx_mt_el.mpr ⟨A, hA, hm⟩⟩)) a1, vx_wu_sub (A := rf_n j' k' h' F' .leaf) (fun m hm => Or.inr (Or.inl ⟨h3', vx_mt_el.mpr ⟨B, hB, hm⟩⟩)) a2⟩, ⟨by omega, by omega, by omega, by omega, by omega, by omega⟩, by omega, by omega, by omega⟩
/-- one term of the walk at place i of its pile, u links used; bs: links of the other side -/
def vx_c1 (S : vx_S) (bs : Nat) (A : rf_N) (u L : Int) (i : Nat) : Prop := True → ∃ w, vx_wu S w A ∧ (vx_lh A ≤ 67 ∧ vx_hh A ≤ 26 ∧ vx_hz A ≤ 1024) ∧ (u + (vx_lh A : Int) ≤ 134 + (bs : Int) + (vx_lc S w : Int)) ∧ (L + (vx_lh A : Int) ≤ 1000 + 67 * (vx_ls (vx_rw S) w : Int)) ∧ (i + 3 * vx_hh A ≤ 82 + 78 * vx_ls (vx_rw S) w)
theorem vx_c1_bd {S : vx_S} {bs : Nat} {A : rf_N} {u L : Int} {i : Nat} {rk : Int → Nat} (hr : vx_rk S rk) (hW : vx_W S) (hC : vx_CT S) (hb : bs ≤ 385) (h : vx_c1 S bs A u L i) : u + (vx_lh A : Int) ≤ 904 ∧ L + (vx_lh A : Int) ≤ 1335 ∧ i + 3 * vx_hh A ≤ 472 ∧ vx_hz A ≤ 1024 := by
  obtain ⟨w, a1, ⟨_, _, a2⟩, b1, b2, b3⟩ := h trivial
  have c1 := vx_lc_bd hr hW hC a1
  have d1 : vx_lc S w ≤ 385 := by
    unfold vx_lc
    omega
  omega
theorem vx_c1_le {S T : vx_S} {bs : Nat} {A : rf_N} {u L : Int} {i : Nat} (hle : vx_le S T) (hW : vx_W S) (h : vx_c1 S bs A u L i) : vx_c1 T bs A u L i := fun _ => by
  obtain ⟨w, a1, a3, b1, b2, b3⟩ := h trivial
  have e1 := vx_lc_le hle hW a1
  refine ⟨w, vx_wu_le hle a1, a3, ?_, by rw [e1.2]; exact b2, by rw [e1.2]; exact b3⟩
  unfold vx_lc at b1 ⊢
  rw [e1.1, e1.2]
  exact b1
theorem vx_c1_lam {S : vx_S} {bs : Nat} {j : Nat} {x : Int} {F : rf_N} {u L : Int} {i : Nat} (h : vx_c1 S bs (rf_n j 0 x F .leaf) u L i) : vx_c1 S bs F (u + 1) (L + 1) i := fun _ => by
  obtain ⟨w, a1, ⟨a3, a4, a5⟩, b1, b2, b3⟩ := h trivial
  obtain ⟨l1, l2⟩ := vx_lh_lam (j := j) (x := x) (F := F)
  rw [l1] at a3 b1 b2
  rw [l2] at a4 b3
  rw [vx_hz_lam vx_03] at a5
  exact ⟨w, vx_wu_sub (A := rf_n j 0 x F .leaf) (fun m hm => Or.inr (Or.inl ⟨vx_03, hm⟩)) a1, ⟨by omega, by omega, by omega⟩, by omega, by omega, by omega⟩
theorem vx_c1_el {S : vx_S} {bs : Nat} {j : Nat} {k h : Int} {F A : rf_N} {u L : Int} {i i' : Nat} (h0 : k ≠ 0) (h3 : k ≠ 3) (hA : A ∈ vx_el F) (hi : i' ≤ i + 3) (h1 : vx_c1 S bs (rf_n j k h F .leaf) u L i) : vx_c1 S bs A u L i' := fun _ => by
  obtain ⟨w, a1, ⟨a3, a4, a5⟩, b1, b2, b3⟩ := h1 trivial
  obtain ⟨l1, l2⟩ := vx_lh_rig (j := j) (h := h) (F := F) h0 h3
  obtain ⟨m1, m2⟩ := vx_lh_el hA
  have z1 := vx_hz_el hA
  rw [l1] at a3 b1 b2
  rw [l2] at a4 b3
  rw [vx_hz_lam h3] at a5
  exact ⟨w, vx_wu_sub (A := rf_n j k h F .leaf) (fun m hm => Or.inr (Or.inl ⟨h3, vx_mt_el.mpr ⟨A, hA, hm⟩⟩)) a1, ⟨by omega, by omega, by omega⟩, by omega, by omega, by omega⟩
theorem vx_c1_in {S : vx_S} {bs : Nat} {j : Nat} {m : Int} {F X : rf_N} {e : Int → Int} {u u' L : Int} {i : Nat} (hC : vx_CT S) (hs : vx_sg X) (hb : S.2.2.2.1 m = some (X, e)) (hu : u' ≤ u + (vx_aa S m : Int)) (h : vx_c1 S bs (rf_n j 3 m F .leaf) u L i) : vx_c1 S bs X u' L i := fun _ => by
  obtain ⟨w, a1, ⟨a3, a4, a5⟩, b1, b2, b3⟩ := h trivial
  obtain ⟨l1, l2, l5⟩ := vx_lh_body hC hs hb
  have l3 := vx_lh_call (j := j) (m := m) (F := F)
  have l4 := vx_rw_le S m
  rw [l3.1] at b1 b2
  rw [l3.2] at b3
  have e1 : vx_ls (vx_rw S) (m :: w) = vx_rw S m + vx_ls (vx_rw S) w := rfl
  have e2 : vx_ls (vx_aa S) (m :: w) = vx_aa S m + vx_ls (vx_aa S) w := rfl
  refine ⟨m :: w, vx_wu_in (A := rf_n j 3 m F .leaf) hb (Or.inl ⟨rfl, rfl⟩) a1, ⟨by omega, by omega, l5⟩, ?_, by rw [e1]; omega, by rw [e1]; omega⟩
  unfold vx_lc at b1 ⊢
  rw [e1, e2]
  omega
/-- the walk begins at the right side of a pair -/
theorem vx_c1_0 {S : vx_S} {A B : rf_N} {u L : Int} {i : Nat} {rk : Int → Nat} (hr : vx_rk S rk) (hW : vx_W S) (hC : vx_CT S) (h : vx_c2 S A B u L i) : ∃ bs, bs ≤ 385 ∧ vx_c1 S bs B u L 0 := by
  obtain ⟨wa, wb, ⟨a1, a2⟩, ⟨a3, a4, a5, a6, a7, a8⟩, b1, b2, b3⟩ := h trivial
  have c1 := vx_lc_bd hr hW hC a1
  refine ⟨vx_lc S wa, by unfold vx_lc; omega, fun _ => ⟨wb, a2, ⟨a5, a6, a8⟩, by omega, by omega, by omega⟩⟩
/-- and at the left one -/
theorem vx_c1_1 {S : vx_S} {A B : rf_N} {u L : Int} {i : Nat} {rk : Int → Nat} (hr : vx_rk S rk) (hW : vx_W S) (hC : vx_CT S) (h : vx_c2 S A B u L i) : ∃ bs, bs ≤ 385 ∧ vx_c1 S bs A u L 0 := by
  obtain ⟨wa, wb, ⟨a1, a2⟩, ⟨a3, a4, a5, a6, a7, a8⟩, b1, b2, b3⟩ := h trivial
  have c1 := vx_lc_bd hr hW hC a1
  have c2 := vx_lc_bd hr hW hC a2
  refine ⟨vx_lc S wb, by unfold vx_lc; omega, fun _ => ⟨wa, a1, ⟨a3, a4, a7⟩, by omega, by omega, by omega⟩⟩
