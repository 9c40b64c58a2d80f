section
/-! ===== the reference: a node under names, on its way ===== -/
/-- N: not below a LAM or a head -/
def rf_Ng (N : Int → rf_T → Prop) (A : rf_N) : Prop := (∀ v T, N v T → v < 0) ∧ (rf_k3 A ∨ ∀ v T, ¬ N v T)
def rf_CL (s : sx_S) (g : rf_Gh) (N : Int → rf_T → Prop) (A : rf_N) (y : rf_Y) (x : rf_T) (W : List Nat) (p : Nat) (i b : Int) : Prop := (rf_no s A i ∧ (rf_gt (rf_Hn (s.1 66 58) s N) rf_P A).1 x ∧ rf_Ng N A ∧ rf_NM s N y b) ∧ ((rf_am (rf_di s g.2.2) A).1 ∧ rf_ij (rf_fo (rf_Wd s g.2.2) A).1 y) ∧ (rf_wh A).1 ≤ 200 ∧ rf_wy s g W (rf_oc A).1 (rf_wh A).1 p
/-- a row of ARGs -/
def rf_CR (s : sx_S) (g : rf_Gh) (N : Int → rf_T → Prop) (f : rf_N) (y : rf_Y) (x : rf_T) (W : List Nat) (p : Nat) (i b : Int) : Prop := (rf_no s f i ∧ (rf_gt (rf_Hn (s.1 66 58) s N) rf_P f).2 x .leaf ∧ (∀ v T, ¬ N v T) ∧ rf_NM s N y b) ∧ ((rf_am (rf_di s g.2.2) f).2 ∧ rf_ij (rf_fo (rf_Wd s g.2.2) f).2 y) ∧ (rf_wh f).2 ≤ 200 ∧ rf_wy s g W (rf_oc f).2 (rf_wh f).2 p
def rf_Ub (s : sx_S) (g : rf_Gh) : Prop := ∀ r q, 0 ≤ r → r < s.1 66 61 → g.2.2 r q → (q : Int) < rf_aa s r
theorem rf_MI.ub {nb ib : Int} {s : sx_S} {g : rf_Gh} (h : rf_MI nb ib s g) : rf_Ub s g := fun r q r0 r1 hq => (h.1 r r0 r1).2.1 q hq
theorem rf_EG.ub {s : sx_S} {g g' : rf_Gh} (h : rf_EG s g g') (hu : rf_Ub s g) : ∀ r q, 0 ≤ r → r < s.1 66 61 → g'.2.2 r q → g.2.2 r q ∧ (q : Int) < rf_aa s r := fun r q r0 r1 hq => ⟨(h r r0 r1).2 q hq, hu r q r0 r1 ((h r r0 r1).2 q hq)⟩
theorem rf_CL_up {s t : sx_S} {g g' : rf_Gh} (h : rf_EX (s.1 66 71) (s.1 66 58) s t) (hn : s.1 66 71 ≤ t.1 66 71) (hi : s.1 66 58 ≤ t.1 66 58) (hg : rf_EG s g g') (hu : rf_Ub s g) {N : Int → rf_T → Prop} {A : rf_N} {y : rf_Y} {x : rf_T} {W : List Nat} {p : Nat} {i b : Int} (k : rf_CL s g N A y x W p i b) : rf_CL t g' N A y x W p i b := by
  obtain ⟨⟨a1, a2, a3, a4⟩, ⟨b1, b2⟩, c, d⟩ := k
  have hbn := (rf_bn_gn a1).1 _ a2
  have hU := hg.ub hu
  exact ⟨⟨h.no a1, (rf_gn_up h hi (fun _ _ z => z) a1).1 _ a2, a3, rf_NM_up h hn hi a4⟩, ⟨(rf_di_up h hU).1 hbn b1, rf_ij_le ((rf_Wd_up h hU).1 hbn) b2⟩, c, rf_wy_up h hg d⟩
theorem rf_CR_up {s t : sx_S} {g g' : rf_Gh} (h : rf_EX (s.1 66 71) (s.1 66 58) s t) (hn : s.1 66 71 ≤ t.1 66 71) (hi : s.1 66 58 ≤ t.1 66 58) (hg : rf_EG s g g') (hu : rf_Ub s g) {N : Int → rf_T → Prop} {A : rf_N} {y : rf_Y} {x : rf_T} {W : List Nat} {p : Nat} {i b : Int} (k : rf_CR s g N A y x W p i b) : rf_CR t g' N A y x W p i b := by
  obtain ⟨⟨a1, a2, a3, a4⟩, ⟨b1, b2⟩, c, d⟩ := k
  have hbn := (rf_bn_gn a1).2 _ _ a2
  have hU := hg.ub hu
  exact ⟨⟨h.no a1, (rf_gn_up h hi (fun _ _ z => z) a1).2 _ _ a2, a3, rf_NM_up h hn hi a4⟩, ⟨(rf_di_up h hU).2 hbn b1, rf_ij_le ((rf_Wd_up h hU).2 hbn) b2⟩, c, rf_wy_up h hg d⟩
/-- a node of a typed tree -/
theorem rf_CL_node {s : sx_S} {g : rf_Gh} {N : Int → rf_T → Prop} {A : rf_N} {y : rf_Y} {x : rf_T} {W : List Nat} {p : Nat} {i b : Int} (k : rf_CL s g N A y x W p i b) : ∃ (j : Nat) (kk : Int × Int) (u : Unit) (f n : rf_N), A = .inner j kk u f n ∧ i = (j : Int) ∧ i.toNat = j ∧ (j : Int) < s.1 66 50 ∧ s.2.1 100 j = kk.1 ∧ s.2.1 101 j = kk.2 ∧ rf_no s f (s.2.1 102 j) ∧ rf_no s n (s.2.1 103 j) ∧ ((kk.1 = 0 ∧ ∃ C D, x = rf_a C D ∧ rf_vb (s.1 66 58) s kk.2 C ∧ (rf_gt (rf_Hn (s.1 66 58) s N) rf_P f).1 D) ∨ (kk.1 ≠ 0 ∧ x = .leaf ∧ ∃ w, rf_Hn (s.1 66 58) s N j kk.1 kk.2 w ∧ (rf_gt (rf_Hn (s.1 66 58) s N) rf_P f).2 w .leaf)) := by
  cases A with
  | leaf => exact k.1.2.1.elim
  | inner j kk u f n =>
    obtain ⟨⟨⟨⟨m0, m1⟩, ⟨m2, m3⟩, m4, m5⟩, a2, _⟩, _⟩ := k
    refine ⟨j, kk, u, f, n, rfl, m0, by omega, m1, m2, m3, m4, m5, ?_⟩
    rcases a2 with ⟨e, C, D, q1, q2, q3⟩ | ⟨e, w, q1, q2, q3⟩
    · exact Or.inl ⟨e, C, D, q1, rf_Hn_02 q2 (Or.inl e), q3⟩
    · have q4 : x = .leaf := q3
      rw [q4] at q2
      exact Or.inr ⟨e, q4, w, q1, q2⟩
theorem rf_fo_typed {s : sx_S} {g : rf_Gh} (hu : rf_Ub s g) {N : Int → rf_T → Prop} {A : rf_N} {i : Int} {x : rf_T} (a1 : rf_no s A i) (a2 : (rf_gt (rf_Hn (s.1 66 58) s N) rf_P A).1 x) {y : rf_Y} {b : Int} (a4 : rf_NM s N y b) : ∀ w, (rf_fo (rf_Wd s g.2.2) A).1 w → ∃ T, rf_vb (s.1 66 58) s (rf_look y w) T := by
  intro w hw
  have hbn := (rf_bn_gn a1).1 _ a2
  have h2 := (rf_am_mono (p := rf_bn s) (p' := fun j r => ∀ v, rf_Wd s g.2.2 j r v → ∃ q : Nat, (q : Int) < rf_aa s r ∧ v = rf_rv1 s j q) (n := A) (fun j _ r hb v ⟨q, q1, q2⟩ => ⟨q, hu r q hb.2.1.1 hb.2.1.2 q1, q2⟩)).1 hbn
  obtain ⟨T, hT⟩ := rf_fo_ty.1 _ a2 h2 w hw
  exact ⟨T, a4.2.2.1 w T hT⟩
/-- under a LAM -/
theorem rf_CL_lam {s t : sx_S} {g : rf_Gh} (hu : rf_Ub s g) {N : Int → rf_T → Prop} {j : Nat} {kk : Int × Int} {u : Unit} {f n : rf_N} {y : rf_Y} {C D : rf_T} {W : List Nat} {p : Nat} {i b z v : Int} (k : rf_CL s g N (.inner j kk u f n) y (rf_a C D) W p i b) (k0 : kk.1 = 0) (h : rf_EX (s.1 66 71) (s.1 66 58) s t) (hn : s.1 66 71 ≤ t.1 66 71) (hi : s.1 66 58 < t.1 66 58) (hv : v = s.1 66 58) (r58 : 0 ≤ s.1 66 58) (hty : t.2.1 106 v.toNat = s.2.1 106 kk.2.toNat) (hz : 0 ≤ z ∧ z < t.1 66 71) (hm : rf_nm t z kk.2 v b) : rf_CL t g N f (rf_one kk.2 v y) D W (p - 1) (s.2.1 102 j) z := by
  have kc := k
  obtain ⟨⟨a1, a2, a3, a4⟩, ⟨b1, b2⟩, c, d⟩ := k
  have hft := rf_fo_typed hu a1 a2 a4
  obtain ⟨⟨m0, m1⟩, ⟨m2, m3⟩, m4, m5⟩ := a1
  rcases a2 with ⟨e, C', D', q1, q2, q3⟩ | ⟨e, _⟩
  · cases q1
    have q2v := rf_Hn_02 q2 (Or.inl e)
    have vt : rf_vb (t.1 66 58) t kk.2 C := rf_vb_le (by omega) ((h.vb (Int.le_refl _) _ _).mpr q2v)
    have vv : rf_vb (t.1 66 58) t v C := by
      refine ⟨⟨by omega, by omega⟩, ?_⟩
      rw [hty]
      exact (h.is _ _).mpr q2v.2
    have hwh := rf_wh_0 (j := j) (u := u) (f := f) (x := n) k0
    have hbn := (rf_bn_gn m4).1 _ q3
    have hU : ∀ r q, 0 ≤ r → r < s.1 66 61 → g.2.2 r q → g.2.2 r q ∧ (q : Int) < rf_aa s r := fun r q r0 r1 hq => ⟨hq, hu r q r0 r1 hq⟩
    have hN0 : ∀ v T, ¬ N v T := a3.2.elim (fun z => by have : kk.1 = 3 := z; omega) id
    refine ⟨⟨h.no m4, (rf_gn_up h (by omega) (fun _ _ z => z) m4).1 _ q3, ⟨a3.1, Or.inr hN0⟩, rf_NM_one a3.1 hz hm vt vv (rf_NM_up h hn (by omega) a4)⟩, ⟨(rf_di_up h hU).1 hbn (b1.2.1 k0), ?_⟩, by omega, rf_wy_le (fun z hz => Or.inr (Or.inl ⟨k0, hz⟩)) (by omega) (rf_wy_up h (rf_EG_refl s g) d)⟩
    refine rf_ij_one (F := (rf_fo (rf_Wd s g.2.2) (.inner j kk u f n)).1) (fun w hw hne => Or.inr (Or.inl ⟨k0, hne, (rf_Wd_up h hU).1 hbn w hw⟩)) (fun w hw e => ?_) b2
    obtain ⟨T, hT⟩ := hft w hw
    have := hT.1.2
    omega
  · exact absurd k0 e
/-- the ARGs of a head -/
theorem rf_CL_app {s : sx_S} {g : rf_Gh} {N : Int → rf_T → Prop} {j : Nat} {kk : Int × Int} {u : Unit} {f n : rf_N} {y : rf_Y} {x w : rf_T} {W : List Nat} {p : Nat} {i b : Int} (k : rf_CL s g N (.inner j kk u f n) y x W p i b) (k0 : kk.1 = 1 ∨ kk.1 = 2) (hw : (rf_gt (rf_Hn (s.1 66 58) s N) rf_P f).2 w .leaf) (hp : 1 ≤ p) : rf_CR s g N f y w W (p - 1) (s.2.1 102 j) b := by
  obtain ⟨⟨⟨⟨m0, m1⟩, ⟨m2, m3⟩, m4, m5⟩, a2, a3, a4⟩, ⟨b1, b2⟩, c, d⟩ := k
  have hwh := rf_wh_2 (j := j) (u := u) (f := f) (x := n) k0
  have hN0 : ∀ v T, ¬ N v T := a3.2.elim (fun z => by have : kk.1 = 3 := z; omega) id
  exact ⟨⟨m4, hw, hN0, a4⟩, ⟨b1.2.2 k0, rf_ij_le (fun v hv => Or.inr (Or.inr ⟨k0, Or.inr hv⟩)) b2⟩, by omega, rf_wy_le (fun z hz => Or.inr (Or.inr ⟨k0, hz⟩)) (by omega) d⟩
/-- the first of a row, and the others -/
theorem rf_CR_cons {s : sx_S} {g : rf_Gh} {N : Int → rf_T → Prop} {f : rf_N} {y : rf_Y} {x : rf_T} {W : List Nat} {p : Nat} {i b : Int} (k : rf_CR s g N f y x W p i b) (hi : i ≠ -1) : ∃ C D, x = rf_a C D ∧ rf_CL s g N f y C W p i b ∧ ∃ n, rf_CR s g N n y D W p (s.2.1 103 i.toNat) b ∧ (0 ≤ i ∧ i < s.1 66 50) ∧ ∃ (j : Nat) (kk : Int × Int) (u : Unit) (ff : rf_N), f = .inner j kk u ff n := by
  cases f with
  | leaf => exact absurd k.1.1 hi
  | inner j kk u f n =>
    obtain ⟨⟨a1, a2, a3, a4⟩, ⟨b1, b2⟩, c, d⟩ := k
    have a1c := a1
    obtain ⟨⟨m0, m1⟩, ⟨m2, m3⟩, m4, m5⟩ := a1
    obtain ⟨C, D, q1, q2, q3⟩ := a2
    have hle := rf_wh_le (j := j) (k := kk) (u := u) (f := f) (x := n)
    have ej : i.toNat = j := by omega
    refine ⟨C, D, q1, ⟨⟨a1c, q2, ⟨fun v T z => absurd z (a3 v T), Or.inr a3⟩, a4⟩, ⟨b1.1, rf_ij_le (fun v hv => Or.inl hv) b2⟩, by omega, rf_wy_le (fun z hz => Or.inl hz) (by omega) d⟩, n, ⟨⟨by rw [ej]; exact m5, q3, a3, a4⟩, ⟨b1.2, rf_ij_le (fun v hv => Or.inr hv) b2⟩, by omega, rf_wy_le (fun z hz => Or.inr hz) (by omega) d⟩, by omega, j, kk, u, f, rfl⟩
theorem rf_CR_nil {s : sx_S} {g : rf_Gh} {N : Int → rf_T → Prop} {f : rf_N} {y : rf_Y} {x : rf_T} {W : List Nat} {p : Nat} {i b : Int} (k : rf_CR s g N f y x W p i b) : (i = -1 ↔ f = .leaf) ∧ (f = .leaf ↔ x = .leaf) := by
  obtain ⟨⟨a1, a2, _⟩, _⟩ := k
  cases f with
  | leaf =>
    have e1 : i = -1 := a1
    have e2 : x = .leaf := a2
    exact ⟨⟨fun _ => rfl, fun _ => e1⟩, ⟨fun _ => e2, fun _ => rfl⟩⟩
  | inner j kk u f n =>
    obtain ⟨C, D, q1, _⟩ := a2
    have m0 := a1.1.1
    refine ⟨⟨fun e => by omega, fun e => by cases e⟩, ⟨fun e => by (cases e), fun e => ?_⟩⟩
    rw [q1] at e
    cases e
/-- a solved unknown is entered -/
theorem rf_CL_en {nb ib : Int} {s t : sx_S} {g : rf_Gh} (hM : rf_MI nb ib s g) (hib : ib ≤ s.1 66 58) (hp : rf_ph s g ≤ 1150) {N : Int → rf_T → Prop} {j : Nat} {kk : Int × Int} {u : Unit} {f n : rf_N} {y : rf_Y} {x : rf_T} {W : List Nat} {p : Nat} {i b z : Int} (k : rf_CL s g N (.inner j kk u f n) y x W p i b) (k3 : kk.1 = 3) (hs : s.2.1 111 kk.2.toNat ≠ 0) (h : rf_EX (s.1 66 71) (s.1 66 58) s t) (hn : s.1 66 71 ≤ t.1 66 71) (hi : t.1 66 58 = s.1 66 58) (hz : rf_bs t (rf_bh (g.2.1 kk.2) (rf_row (rf_fm s kk.2) (rf_vo s y i) (rf_aa s kk.2).toNat)) z) : x = .leaf ∧ 5 ≤ p ∧ rf_CL t g (rf_Nx s kk.2) (g.1 kk.2) (rf_bh (g.2.1 kk.2) (rf_row (rf_fm s kk.2) (rf_vo s y i) (rf_aa s kk.2).toNat)) .leaf (kk.2.toNat :: W) (p - 5) (s.2.1 113 kk.2.toNat) z := by
  obtain ⟨⟨a1, a2, a3, a4⟩, ⟨b1, b2⟩, c, d⟩ := k
  obtain ⟨⟨m0, m1⟩, ⟨m2, m3⟩, m4, m5⟩ := a1
  have ej : i.toNat = j := by omega
  rcases a2 with ⟨e, _⟩ | ⟨e, w, q1, q2, q3⟩
  · omega
  · obtain ⟨hw, hr, hb, hty⟩ := rf_Hn_3 q1 k3
    have hMX := hM.1 kk.2 hr.1 hr.2
    have hSV := hMX.2.2.2 hs
    have hwh : (rf_wh (.inner j kk u f n)).1 = 5 := if_pos k3
    have hpp := rf_wy_pos d hp
    have hwi := rf_wy_in d hM hp (x := kk.2) (Or.inl ⟨k3, rfl⟩) (by omega) hr.1 hr.2 hs
    have hNM := rf_NM_enter (n := i) (x := kk.2) (u := w) (k := kk.1) hSV hib (Int.le_refl _) (by rw [ej]; exact q1) k3 a4 h hn hi hz
    obtain ⟨⟨s1, s2, s3, s4⟩, _, ⟨_, _, s5, _⟩, _⟩ := hSV
    have hNg : rf_Ng (rf_Nx s kk.2) (g.1 kk.2) := ⟨rf_Nx_neg, s5.imp (fun z => z.2) (fun z v T ⟨w1, q, w2, w3, _⟩ => by have := z q w2; omega)⟩
    have hbn := (rf_bn_gn s1).1 _ s2
    have hU : ∀ r q, 0 ≤ r → r < s.1 66 61 → g.2.2 r q → g.2.2 r q ∧ (q : Int) < rf_aa s r := fun r q r0 r1 hq => ⟨hq, hM.ub r q r0 r1 hq⟩
    refine ⟨q3, by omega, ⟨h.no s1, (rf_gn_up (rf_EX_le h (Int.le_refl _) hib) (by omega) (fun _ _ z => z) s1).1 _ s2, hNg, hNM⟩, ⟨(rf_di_up h hU).1 hbn s4, rf_ij_le ((rf_Wd_up h hU).1 hbn) (rf_ij_in hMX hs (by rw [ej]; exact b1.1 k3) (rf_ij_le (fun v hv => Or.inl ⟨k3, ?_⟩) b2))⟩, s3, rf_wy_up h (rf_EG_refl s g) hwi⟩
    rw [ej] at hv
    exact hv
end
section
/-! ===== the reference: what small steps leave as it was ===== -/
def rf_FS (s t : sx_S) : Prop := (cx_F [(66, 66), (100, 106), (108, 117), (124, 124)] s t ∧ rf_f [50, 56, 58, 61, 64, 70, 71] s t) ∧ (rf_ag 100 104 (s.1 66 50) s t ∧ rf_ag 105 105 (s.1 66 56) s t ∧ rf_ag 106 106 (s.1 66 58) s t) ∧ (s.1 66 50 ≤ t.1 66 50 ∧ s.1 66 56 ≤ t.1 66 56 ∧ s.1 66 58 ≤ t.1 66 58)
theorem rf_FS_refl (s : sx_S) : rf_FS s s := ⟨⟨cx_F_refl _ _, rf_f_refl _ _⟩, ⟨rf_ag_refl _ _ _ _, rf_ag_refl _ _ _ _, rf_ag_refl _ _ _ _⟩, Int.le_refl _, Int.le_refl _, Int.le_refl _⟩
theorem rf_FS_trans {s t u : sx_S} (h2 : rf_FS t u) (h1 : rf_FS s t) : rf_FS s u := by
  obtain ⟨⟨a1, a2⟩, ⟨a3, a4, a5⟩, a6, a7, a8⟩ := h1
  obtain ⟨⟨b1, b2⟩, ⟨b3, b4, b5⟩, b6, b7, b8⟩ := h2
  exact ⟨⟨cx_F_step b1 rfl a1, rf_f_step b2 rfl a2⟩, ⟨rf_ag_trans b3 a6 a3, rf_ag_trans b4 a7 a4, rf_ag_trans b5 a8 a5⟩, by omega, by omega, by omega⟩
theorem rf_FS_of {V : List (Nat × Nat)} {X : List Nat} {s t : sx_S} (hF : cx_F V s t) (hV : cx_le V [(66, 66), (100, 106), (108, 117), (124, 124)] = true) (hf : rf_f X s t) (hX : X.all ([50, 56, 58, 61, 64, 70, 71] : List Nat).contains = true) (a : rf_ag 100 104 (s.1 66 50) s t) (b : rf_ag 105 105 (s.1 66 56) s t) (c : rf_ag 106 106 (s.1 66 58) s t) (d : s.1 66 50 ≤ t.1 66 50 ∧ s.1 66 56 ≤ t.1 66 56 ∧ s.1 66 58 ≤ t.1 66 58) : rf_FS s t := ⟨⟨cx_F_step hF hV (cx_F_refl _ _), rf_f_step hf hX (rf_f_refl _ _)⟩, ⟨a, b, c⟩, d⟩
/-- names are made -/
theorem rf_EX_name {ib : Int} {s t : sx_S} (hF : cx_F [(66, 66), (115, 117)] s t) (hf : rf_f [71] s t) (ha : rf_ag 115 117 (s.1 66 71) s t) : rf_EX (s.1 66 71) ib s t ∧ rf_FS s t := by
  have e50 := hf 50 rfl
  have e56 := hf 56 rfl
  have e58 := hf 58 rfl
  have e61 := hf 61 rfl
  have e64 := hf 64 rfl
  have e70 := hf 70 rfl
  refine ⟨⟨⟨⟨hf 9 rfl, (hF.same 72 rfl).2, (hF.same 73 rfl).2, (hF.same 96 rfl).2, hf 42 rfl⟩, by omega, by omega, by omega, by omega, by omega⟩, fun j => ⟨fun _ => ⟨by rw [(hF.same 100 rfl).2], by rw [(hF.same 101 rfl).2], by rw [(hF.same 102 rfl).2], by rw [(hF.same 103 rfl).2], by rw [(hF.same 104 rfl).2]⟩, fun _ => by rw [(hF.same 105 rfl).2], fun _ => by rw [(hF.same 106 rfl).2], fun _ => ⟨by rw [(hF.same 108 rfl).2], by rw [(hF.same 109 rfl).2], fun _ => ⟨by rw [(hF.same 111 rfl).2], by rw [(hF.same 112 rfl).2], by rw [(hF.same 113 rfl).2], by rw [(hF.same 114 rfl).2]⟩⟩, fun _ => by rw [(hF.same 110 rfl).2], fun hj => ⟨ha 115 j (by omega) (by omega) hj, ha 116 j (by omega) (by omega) hj, ha 117 j (by omega) (by omega) hj⟩⟩⟩, rf_FS_of hF rfl hf rfl (rf_ag_F hF rfl (rf_ag_refl _ _ _ _)) (rf_ag_F hF rfl (rf_ag_refl _ _ _ _)) (rf_ag_F hF rfl (rf_ag_refl _ _ _ _)) (by omega)⟩
/-- a variable is made -/
theorem rf_EX_var {nb : Int} {s t : sx_S} (hF : cx_F [(66, 66), (106, 106)] s t) (hf : rf_f [58] s t) (ha : rf_ag 106 106 (s.1 66 58) s t) (hi : s.1 66 58 ≤ t.1 66 58) : rf_EX nb (s.1 66 58) s t ∧ rf_FS s t := by
  have e50 := hf 50 rfl
  have e56 := hf 56 rfl
  have e61 := hf 61 rfl
  have e64 := hf 64 rfl
  have e70 := hf 70 rfl
  refine ⟨⟨⟨⟨hf 9 rfl, (hF.same 72 rfl).2, (hF.same 73 rfl).2, (hF.same 96 rfl).2, hf 42 rfl⟩, by omega, by omega, by omega, by omega, by omega⟩, fun j => ⟨fun _ => ⟨by rw [(hF.same 100 rfl).2], by rw [(hF.same 101 rfl).2], by rw [(hF.same 102 rfl).2], by rw [(hF.same 103 rfl).2], by rw [(hF.same 104 rfl).2]⟩, fun _ => by rw [(hF.same 105 rfl).2], fun hj => ha 106 j (by omega) (by omega) hj, fun _ => ⟨by rw [(hF.same 108 rfl).2], by rw [(hF.same 109 rfl).2], fun _ => ⟨by rw [(hF.same 111 rfl).2], by rw [(hF.same 112 rfl).2], by rw [(hF.same 113 rfl).2], by rw [(hF.same 114 rfl).2]⟩⟩, fun _ => by rw [(hF.same 110 rfl).2], fun _ => ⟨by rw [(hF.same 115 rfl).2], by rw [(hF.same 116 rfl).2], by rw [(hF.same 117 rfl).2]⟩⟩⟩, rf_FS_of hF rfl hf rfl (rf_ag_F hF rfl (rf_ag_refl _ _ _ _)) (rf_ag_F hF rfl (rf_ag_refl _ _ _ _)) ha (by omega)⟩
/-- places of variables are filled -/
theorem rf_EX_row {nb ib : Int} {s t : sx_S} (hF : cx_F [(66, 66), (105, 105)] s t) (hf : rf_f [56] s t) (ha : rf_ag 105 105 (s.1 66 56) s t) (hi : s.1 66 56 ≤ t.1 66 56) : rf_EX nb ib s t ∧ rf_FS s t := by
  have e50 := hf 50 rfl
  have e58 := hf 58 rfl
  have e61 := hf 61 rfl
  have e64 := hf 64 rfl
  have e70 := hf 70 rfl
  refine ⟨⟨⟨⟨hf 9 rfl, (hF.same 72 rfl).2, (hF.same 73 rfl).2, (hF.same 96 rfl).2, hf 42 rfl⟩, by omega, by omega, by omega, by omega, by omega⟩, fun j => ⟨fun _ => ⟨by rw [(hF.same 100 rfl).2], by rw [(hF.same 101 rfl).2], by rw [(hF.same 102 rfl).2], by rw [(hF.same 103 rfl).2], by rw [(hF.same 104 rfl).2]⟩, fun hj => ha 105 j (by omega) (by omega) hj, fun _ => by rw [(hF.same 106 rfl).2], fun _ => ⟨by rw [(hF.same 108 rfl).2], by rw [(hF.same 109 rfl).2], fun _ => ⟨by rw [(hF.same 111 rfl).2], by rw [(hF.same 112 rfl).2], by rw [(hF.same 113 rfl).2], by rw [(hF.same 114 rfl).2]⟩⟩, fun _ => by rw [(hF.same 110 rfl).2], fun _ => ⟨by rw [(hF.same 115 rfl).2], by rw [(hF.same 116 rfl).2], by rw [(hF.same 117 rfl).2]⟩⟩⟩, rf_FS_of hF rfl hf rfl (rf_ag_F hF rfl (rf_ag_refl _ _ _ _)) ha (rf_ag_F hF rfl (rf_ag_refl _ _ _ _)) (by omega)⟩
/-- a mark is set -/
theorem rf_EX_mark {nb ib : Int} {s : sx_S} {n : Nat} {v : Int} : rf_EX nb ib s (s.1, sx_ua s.2.1 124 n v, s.2.2) ∧ rf_FS s (s.1, sx_ua s.2.1 124 n v, s.2.2) := by
  have o : ∀ p, p ≠ 124 → sx_ua s.2.1 124 n v p = s.2.1 p := fun p hp => sx_ua_ne hp
  refine ⟨⟨⟨⟨rfl, o 72 (by decide), o 73 (by decide), o 96 (by decide), rfl⟩, Int.le_refl _, Int.le_refl _, Int.le_refl _, Int.le_refl _, Int.le_refl _⟩, fun j => ⟨fun _ => ⟨congrFun (o 100 (by decide)) j, congrFun (o 101 (by decide)) j, congrFun (o 102 (by decide)) j, congrFun (o 103 (by decide)) j, congrFun (o 104 (by decide)) j⟩, fun _ => congrFun (o 105 (by decide)) j, fun _ => congrFun (o 106 (by decide)) j, fun _ => ⟨congrFun (o 108 (by decide)) j, congrFun (o 109 (by decide)) j, fun _ => ⟨congrFun (o 111 (by decide)) j, congrFun (o 112 (by decide)) j, congrFun (o 113 (by decide)) j, congrFun (o 114 (by decide)) j⟩⟩, fun _ => congrFun (o 110 (by decide)) j, fun _ => ⟨congrFun (o 115 (by decide)) j, congrFun (o 116 (by decide)) j, congrFun (o 117 (by decide)) j⟩⟩⟩, ⟨cx_F_ua rfl (cx_F_refl _ _), rf_f_refl _ _⟩, ⟨fun p j hp hq _ => congrFun (o p (by omega)) j, fun p j hp hq _ => congrFun (o p (by omega)) j, fun p j hp hq _ => congrFun (o p (by omega)) j⟩, Int.le_refl _, Int.le_refl _, Int.le_refl _⟩
/-- names and variables are taken back -/
theorem rf_EX_back {nb ib a b : Int} {t : sx_S} : rf_EX nb ib t (sx_uf (sx_uf t.1 66 71 a) 66 58 b, t.2) := by
  have o : ∀ k, k ≠ 71 → k ≠ 58 → sx_uf (sx_uf t.1 66 71 a) 66 58 b 66 k = t.1 66 k := fun k h1 h2 => by
    rw [sx_uf_if, if_neg (fun c => h2 c.2), sx_uf_if, if_neg (fun c => h1 c.2)]
  refine ⟨⟨⟨o 9 (by decide) (by decide), rfl, rfl, rfl, o 42 (by decide) (by decide)⟩, Int.le_of_eq (o 50 (by decide) (by decide)).symm, Int.le_of_eq (o 56 (by decide) (by decide)).symm, Int.le_of_eq (o 61 (by decide) (by decide)).symm, Int.le_of_eq (o 64 (by decide) (by decide)).symm, Int.le_of_eq (o 70 (by decide) (by decide)).symm⟩, fun j => ⟨fun _ => ⟨rfl, rfl, rfl, rfl, rfl⟩, fun _ => rfl, fun _ => rfl, fun _ => ⟨rfl, rfl, fun _ => ⟨rfl, rfl, rfl, rfl⟩⟩, fun _ => rfl, fun _ => ⟨rfl, rfl, rfl⟩⟩⟩
theorem rf_back_f {a b : Int} {t : sx_S} : (∀ k, k ≠ 71 → k ≠ 58 → sx_uf (sx_uf t.1 66 71 a) 66 58 b 66 k = t.1 66 k) ∧ sx_uf (sx_uf t.1 66 71 a) 66 58 b 66 71 = a ∧ sx_uf (sx_uf t.1 66 71 a) 66 58 b 66 58 = b := by
  refine ⟨fun k h1 h2 => ?_, ?_, ?_⟩
  · rw [sx_uf_if, if_neg (fun c => h2 c.2), sx_uf_if, if_neg (fun c => h1 c.2)]
  · rw [sx_uf_if, if_neg (fun c => absurd c.2 (by decide)), sx_uf_if, if_pos ⟨rfl, rfl⟩]
  · rw [sx_uf_if, if_pos ⟨rfl, rfl⟩]
theorem rf_FS_back {a b : Int} {s t : sx_S} (h : rf_FS s t) (hb : s.1 66 58 ≤ b) : rf_FS s (sx_uf (sx_uf t.1 66 71 a) 66 58 b, t.2) := by
  obtain ⟨⟨a1, a2⟩, ⟨a3, a4, a5⟩, a6, a7, a8⟩ := h
  obtain ⟨o1, o2, o3⟩ := rf_back_f (a := a) (b := b) (t := t)
  refine ⟨⟨cx_F_uf rfl (cx_F_uf rfl a1), rf_f_uf rfl (rf_f_uf rfl a2)⟩, ⟨a3, a4, a5⟩, ?_, ?_, ?_⟩
  · show _ ≤ sx_uf (sx_uf t.1 66 71 a) 66 58 b 66 50
    rw [o1 50 (by decide) (by decide)]
    exact a6
  · show _ ≤ sx_uf (sx_uf t.1 66 71 a) 66 58 b 66 56
    rw [o1 56 (by decide) (by decide)]
    exact a7
  · show _ ≤ sx_uf (sx_uf t.1 66 71 a) 66 58 b 66 58
    rw [o3]
    exact hb
theorem rf_FS_KA {s u t : sx_S} {Vf Tf : Nat → Int} {kf : Nat → Nat} {n : Nat} {m row J b : Int} (h : rf_KW s u Vf Tf kf n) (hA : rf_AS u t m row J b) : rf_FS s t := by
  obtain ⟨⟨b1, b2, b3⟩, ⟨c1, c2, c3, c4⟩, ⟨d1, d2, d3, d4, d5⟩, _⟩ := h
  obtain ⟨a1, a2, a3, _⟩ := hA
  have e50 := a3 50 rfl
  have e56 := a3 56 rfl
  have e58 := a3 58 rfl
  have f58 := b3 58 rfl
  refine rf_FS_trans (t := u) (rf_FS_of a2 rfl a3 rfl (rf_ag_F a2 rfl (rf_ag_refl _ _ _ _)) (rf_ag_F a2 rfl (rf_ag_refl _ _ _ _)) (rf_ag_F a2 rfl (rf_ag_refl _ _ _ _)) (by omega)) (rf_FS_of b2 rfl b3 rfl d1 d2 (rf_ag_F b2 rfl (rf_ag_refl _ _ _ _)) (by omega))
theorem rf_FS_AS {u t : sx_S} {m row J b : Int} (hA : rf_AS u t m row J b) : rf_FS u t := by
  obtain ⟨a1, a2, a3, _⟩ := hA
  have e50 := a3 50 rfl
  have e56 := a3 56 rfl
  have e58 := a3 58 rfl
  exact rf_FS_of a2 rfl a3 rfl (rf_ag_F a2 rfl (rf_ag_refl _ _ _ _)) (rf_ag_F a2 rfl (rf_ag_refl _ _ _ _)) (rf_ag_F a2 rfl (rf_ag_refl _ _ _ _)) (by omega)
/-- nothing was solved -/
def rf_NC (s t : sx_S) : Prop := t.1 66 61 = s.1 66 61 ∧ ∀ j : Nat, (j : Int) < s.1 66 61 → t.2.1 111 j = s.2.1 111 j
theorem rf_NC_qu {nb ib : Int} {s t : sx_S} (h : rf_EX nb ib s t) (k : rf_NC s t) : rf_qu t = rf_qu s := rf_qu_same k.1 (fun j hj => ⟨k.2 j hj, ((h.2 j).2.2.2.1 hj).1⟩)
theorem rf_NC_ph {nb ib : Int} {s t : sx_S} {g : rf_Gh} (h : rf_EX nb ib s t) (k : rf_NC s t) : rf_ph t g = rf_ph s g := rf_ph_same k.1 (fun j hj => ⟨k.2 j hj, ((h.2 j).2.2.2.1 hj).1⟩) (fun _ _ _ => rfl)
theorem rf_NC_MI {nb ib nb' ib' : Int} {s t : sx_S} {g : rf_Gh} (h : rf_EX nb ib s t) (k : rf_NC s t) (hn : nb ≤ nb') (hi : ib ≤ ib') (hM : rf_MI nb ib s g) : rf_MI nb' ib' t g := rf_MI_up h hn hi k.1 k.2 hM
theorem rf_NC_F {V : List (Nat × Nat)} {X : List Nat} {s t : sx_S} (hF : cx_F V s t) (hV : cx_outb V 111 = true) (hf : rf_f X s t) (hX : X.contains 61 = false) : rf_NC s t := ⟨hf 61 hX, fun j _ => by rw [(hF.same 111 hV).2]⟩
/-- what solving an equation, or a part of it, leaves -/
def rf_PU (s t : sx_S) (g : rf_Gh) (z : Int) (p : Nat) : Prop := (0 ≤ z ∧ z ≤ 1) ∧ cx_I t ∧ rf_FS s t ∧ (z ≠ 0 → ∃ g' : rf_Gh, rf_MI (t.1 66 71) (t.1 66 58) t g' ∧ rf_EX (s.1 66 71) (s.1 66 58) s t ∧ rf_EG s g g' ∧ (rf_ph t g' ≤ 1150 ∧ rf_RM 0 t ∧ rf_qu t ≤ rf_qu s) ∧ (s.1 66 71 ≤ t.1 66 71 ∧ t.1 66 71 ≤ s.1 66 71 + ((max 1 (rf_qu s - rf_qu t) * p : Nat) : Int)) ∧ (s.1 66 58 ≤ t.1 66 58 ∧ t.1 66 58 ≤ s.1 66 58 + ((max 1 (rf_qu s - rf_qu t) * p : Nat) : Int)) ∧ (t.1 66 70 = s.1 66 70 → rf_NC s t) ∧ (t.1 66 70 ≠ s.1 66 70 → rf_qu t < rf_qu s))
/-- the variables of an open unknown, as they are called -/
theorem rf_act_ok {s t : sx_S} {g : rf_Gh} {N : Int → rf_T → Prop} {A : rf_N} {y : rf_Y} {x : rf_T} {W : List Nat} {p : Nat} {i b row m : Int} (hM : rf_MI (s.1 66 71) (s.1 66 58) s g) (k : rf_CL s g N A y x W p i b) (h3 : s.2.1 100 i.toNat = 3) (em : m = s.2.1 101 i.toNat) (ho : s.2.1 111 m.toNat = 0) (a2 : cx_F [(66, 66), (105, 105)] s t) (a3 : rf_f [56] s t) (a4 : row = s.1 66 56) (a5 : t.1 66 56 = s.1 66 56 + s.2.1 108 m.toNat) (a6 : rf_ag 105 105 (s.1 66 56) s t) (a7 : ∀ q : Nat, (q : Int) < s.2.1 108 m.toNat → t.2.1 105 (row + (q : Int)).toNat = rf_vo s y i q) (r108 : 0 ≤ s.2.1 108 m.toNat) (r56 : 0 ≤ s.1 66 56) : (0 ≤ m ∧ m < s.1 66 61) ∧ (0 ≤ row ∧ row + rf_aa t m ≤ t.1 66 56) ∧ (∀ q : Nat, (q : Int) < rf_aa t m → ∃ T, rf_py t m q T ∧ rf_vb (t.1 66 58) t (t.2.1 105 (row + (q : Int)).toNat) T) ∧ (∀ p q : Nat, (p : Int) < rf_aa t m → (q : Int) < rf_aa t m → t.2.1 105 (row + (p : Int)).toNat = t.2.1 105 (row + (q : Int)).toNat → p = q) := by
  obtain ⟨hE, _⟩ := rf_EX_row (nb := s.1 66 71) (ib := s.1 66 58) a2 a3 a6 (by omega)
  obtain ⟨j, kk, u, f, n, eA, e1, e2, e3, e4, e5, e6, e7, e8⟩ := rf_CL_node k
  rw [e2, e4] at h3
  rw [e2, e5] at em
  subst em
  rcases e8 with ⟨c, _⟩ | ⟨c, hx, w, hw, _⟩
  · omega
  · obtain ⟨h1, h2, h4, h5⟩ := rf_Hn_3 hw h3
    subst eA
    obtain ⟨⟨_, _, _, kN⟩, ⟨kd, kj⟩, _⟩ := k
    have eaa : rf_aa t kk.2 = rf_aa s kk.2 := by
      unfold rf_aa
      rw [(a2.same 108 rfl).2]
    have hU := (hM.1 kk.2 h2.1 h2.2).2.2.1 ho
    have hvo : ∀ q, rf_vo s y i q = rf_look y (rf_rv1 s j q) := fun q => by
      unfold rf_vo rf_rv1
      rw [e2]
    have e58 := a3 58 rfl
    refine ⟨h2, ⟨by omega, by rw [eaa]; unfold rf_aa; omega⟩, fun q hq => ?_, fun p q hp hq e => ?_⟩
    · rw [eaa] at hq
      obtain ⟨T, t1, t2⟩ := h5 q hq
      rw [a7 q hq, hvo]
      refine ⟨T, hE.pt h2.1 h2.2 t1, ?_⟩
      rw [e58]
      exact (hE.vb (Int.le_refl _) _ _).mpr (kN.2.2.1 _ T t2)
    · rw [eaa] at hp hq
      rw [a7 p hp, a7 q hq, hvo, hvo] at e
      exact kd.1 h3 p q (hU p hp) (hU q hq) (kj _ _ (Or.inl ⟨h3, p, hU p hp, rfl⟩) (Or.inl ⟨h3, q, hU q hq, rfl⟩) e)
end
section
theorem rf_CL_b {s : sx_S} {g : rf_Gh} (hI : cx_I s) {N : Int → rf_T → Prop} {A : rf_N} {y : rf_Y} {x : rf_T} {W : List Nat} {p : Nat} {i b : Int} (k : rf_CL s g N A y x W p i b) : 0 ≤ i ∧ i ≤ 59999 := by
  obtain ⟨j, kk, u, f, n, _, e1, e2, e3, _⟩ := rf_CL_node k
  have := hI.fld 66 50 (by decide) rfl
  omega
/-- an unknown's node -/
theorem rf_CL_3 {s : sx_S} {g : rf_Gh} {N : Int → rf_T → Prop} {A : rf_N} {y : rf_Y} {x : rf_T} {W : List Nat} {p : Nat} {i b : Int} (k : rf_CL s g N A y x W p i b) (h3 : s.2.1 100 i.toNat = 3) : (0 ≤ s.2.1 101 i.toNat ∧ s.2.1 101 i.toNat < s.1 66 61) ∧ (0 ≤ s.2.1 104 i.toNat ∧ s.2.1 104 i.toNat + rf_aa s (s.2.1 101 i.toNat) ≤ s.1 66 56) ∧ x = .leaf ∧ (∃ (j : Nat) (kk : Int × Int) (u : Unit) (f n : rf_N), A = .inner j kk u f n ∧ i.toNat = j ∧ kk.1 = 3 ∧ kk.2 = s.2.1 101 i.toNat) := by
  obtain ⟨j, kk, u, f, n, eA, e1, e2, e3, e4, e5, e6, e7, e8⟩ := rf_CL_node k
  rw [e2, e4] at h3
  rcases e8 with ⟨c, _⟩ | ⟨c, hx, w, hw, _⟩
  · omega
  · obtain ⟨h1, h2, h4, h5⟩ := rf_Hn_3 hw h3
    rw [e2, e5]
    exact ⟨h2, h4, hx, j, kk, u, f, n, eA, rfl, h3, rfl⟩
end
section
/-! ===== the reference: join ===== -/
/-- both rows are made -/
def rf_JB (s w : sx_S) (m n x5 x6 : Int) : Prop := (cx_I w ∧ rf_EX (s.1 66 71) (s.1 66 58) s w ∧ rf_NC s w ∧ rf_FS s w) ∧ (w.1 66 71 = s.1 66 71 ∧ w.1 66 58 = s.1 66 58 ∧ w.1 66 70 = s.1 66 70 ∧ w.1 66 50 = s.1 66 50 ∧ w.1 66 61 = s.1 66 61 ∧ w.1 66 64 = s.1 66 64 ∧ w.1 66 56 ≤ s.1 66 56 + 8 ∧ w.2.1 108 = s.2.1 108) ∧ ((0 ≤ x5 ∧ x5 + rf_aa w m ≤ w.1 66 56) ∧ (∀ q : Nat, (q : Int) < rf_aa w m → ∃ T, rf_py w m q T ∧ rf_vb (w.1 66 58) w (w.2.1 105 (x5 + (q : Int)).toNat) T) ∧ (∀ p q : Nat, (p : Int) < rf_aa w m → (q : Int) < rf_aa w m → w.2.1 105 (x5 + (p : Int)).toNat = w.2.1 105 (x5 + (q : Int)).toNat → p = q)) ∧ ((0 ≤ x6 ∧ x6 + rf_aa w n ≤ w.1 66 56) ∧ (∀ q : Nat, (q : Int) < rf_aa w n → ∃ T, rf_py w n q T ∧ rf_vb (w.1 66 58) w (w.2.1 105 (x6 + (q : Int)).toNat) T) ∧ (∀ p q : Nat, (p : Int) < rf_aa w n → (q : Int) < rf_aa w n → w.2.1 105 (x6 + (p : Int)).toNat = w.2.1 105 (x6 + (q : Int)).toNat → p = q))
/-- so many variables of both are found -/
def rf_JW (w u : sx_S) (m n x5 x6 x9 x10 x11 : Int) (kf kg : Nat → Nat) (c : Nat) : Prop := rf_KW w u (fun q => w.2.1 105 (x5 + (q : Int)).toNat) (fun q => w.2.1 110 (w.2.1 109 m.toNat + (q : Int)).toNat) kf c ∧ (x9 = w.1 66 61 ∧ x10 = w.1 66 50) ∧ (0 ≤ x11 ∧ x11 ≤ w.2.1 108 m.toNat) ∧ (∀ i, i < c → ((kf i : Nat) : Int) < x11 ∧ ((kg i : Nat) : Int) < w.2.1 108 n.toNat ∧ w.2.1 105 (x5 + ((kf i : Nat) : Int)).toNat = w.2.1 105 (x6 + ((kg i : Nat) : Int)).toNat) ∧ (∀ i j, i < c → j < c → kf i = kf j → i = j) ∧ (c : Int) ≤ x11
end
section
/-! ===== the reference: newMeta and keep, with the marks ===== -/
/-- the marks are as they were; the new unknown has none -/
def rf_KC (s t : sx_S) : Prop := rf_ag 124 124 (s.1 66 61) s t ∧ t.2.1 124 (s.1 66 61).toNat = 0
theorem rf_KC_same {s t u : sx_S} (e : u.2.1 124 = t.2.1 124) (h : rf_KC s t) : rf_KC s u := by
  refine ⟨fun p j hp hq hj => ?_, by rw [e]; exact h.2⟩
  have : p = 124 := by omega
  subst this
  rw [e]
  exact h.1 124 j hp hq hj
theorem w_newMetaC {CALL : sx_Ca} {sL : Nat} {sx : Nat → Int32} {Q : Nat → sx_L → sx_S → Prop} {R : Int → sx_S → Prop} {s : sx_S} (hI : cx_I s) (h61 : 0 ≤ s.1 66 61 ∧ s.1 66 61 ≤ 2999) (hK : ∀ n1 n2 n3 n4 v w z : Int, n1 = s.1 66 61 → n2 = s.1 66 61 → n3 = s.1 66 61 → n4 = s.1 66 61 → v = s.1 66 64 → w = s.1 66 61 + 1 → z = s.1 66 61 → R z (sx_uf s.1 66 61 w, sx_ua (sx_ua (sx_ua (sx_ua s.2.1 108 n1.toNat 0) 109 n2.toNat v) 111 n3.toNat 0) 124 n4.toNat 0, s.2.2)) : sx_wp true sL sx eX12_newMeta CALL [] Q R 400 0 (sx_argsF 0 [.inr (.inl 66)]) [] s := by
  repeat' (first | (with_reducible intro _) | (refine And.intro ?_ ?_) | (refine hK _ _ _ _ _ _ _ ?_ ?_ ?_ ?_ ?_ ?_ ?_))
  all_goals (try dsimp only)
  repeat' (first | (with_reducible assumption) | ((with_reducible (change cx_I (sx_uf _ _ _ _, _))); refine cx_I_uf rfl rfl ?_ ?_ ?_) | ((with_reducible (change cx_I (_, sx_ua _ _ _ _, _))); refine cx_I_ua rfl rfl ?_ ?_ ?_) | ((with_reducible (change cx_I (_, sx_ua _ 16 _ _, _))); refine cx_I_ari ?_ ?_ ?_) | ((with_reducible (change cx_I (sx_uf _ 11 6 _, _))); refine cx_I_ufA rfl ?_ ?_ ?_ ?_) | (with_reducible exact cx_F_refl _ _) | ((with_reducible (change cx_F _ _ (sx_uf _ _ _ _, _))); refine cx_F_uf rfl ?_) | ((with_reducible (change cx_F _ _ (_, sx_ua _ _ _ _, _))); refine cx_F_ua rfl ?_) | ((with_reducible (change cx_I (_, sx_cpy _ _ _ _ _ _, _))); refine cx_I_cpy rfl rfl rfl (by decide) ?_) | ((with_reducible (change cx_F _ _ (_, sx_cpy _ _ _ _ _ _, _))); refine cx_F_cpy rfl ?_) | ((with_reducible (change cx_F _ _ _)); refine cx_F_step (by assumption) rfl ?_) | ((with_reducible (change rf_f _ _ (sx_uf _ 66 _ _, _))); refine rf_f_uf rfl ?_) | ((with_reducible (change rf_f _ _ _)); exact (fun _ _ => rfl)) | ((with_reducible (change rf_f _ _ (_, sx_ua _ _ _ _, _))); refine rf_f_ua ?_) | ((with_reducible (change rf_f _ _ _)); assumption) | ((with_reducible (change rf_f _ _ _)); refine rf_f_step (by assumption) rfl ?_) | ((with_reducible (change rf_f _ _ _)); refine rf_f_F (by assumption) rfl ?_) | fail)
  all_goals (first | trivial | assumption | omega | (dsimp only at *; omega) | (simp only [sx_w_t] at *; omega) | (subst_vars; omega) | (subst_vars; assumption) | (subst_vars; dsimp only at *; omega) | (subst_vars; dsimp only at *; simp only [sx_w_t] at *; omega) | (simp only [sx_uf_if, sx_ua_if, sx_w_t, true_and, and_true, and_self, and_false, false_and, if_true, if_false, reduceIte] at *; omega) | (subst_vars; simp only [sx_uf_if, sx_ua_if, sx_w_t, true_and, and_true, and_self, and_false, false_and, if_true, if_false, reduceIte] at *; omega) | skip)
theorem c_r_newMetaC {sL : Nat} {sx : Nat → Int32} (hsL : sL ≤ 3072) (d : Nat) (hd : 2 ≤ d) : ∀ (s : sx_S) (K : Int → sx_S → Prop), cx_I s → (s.1 66 61 ≤ 2999) → (∀ (z : Int) (t : sx_S), cx_I t → cx_F [(66, 66), (108, 109), (111, 111), (124, 124)] s t → (z = s.1 66 61) → (t.1 66 61 = s.1 66 61 + 1) → (rf_f [61] s t) → (rf_ag 108 111 (s.1 66 61) s t) → (t.2.1 108 z.toNat = 0) → (t.2.1 109 z.toNat = s.1 66 64) → (t.2.1 111 z.toNat = 0) → rf_KC s t → K z t) → sx_C sL sx d 189 [.inr (.inl 66)] s K := by
  intro s K hI p0 hK
  obtain ⟨d, rfl⟩ : ∃ e, d = e + 2 := ⟨d - 2, by omega⟩
  have r61 := hI.fld 66 61 (by decide) rfl
  have r64 := hI.fld 66 64 (by decide) rfl
  refine sx_meth (wr := true) (n := 400) hsL (e := eX12_newMeta) rfl (w_newMetaC (Q := fun _ _ _ => False) hI ⟨r61.1, p0⟩ (fun n1 n2 n3 n4 v w z h1 h2 h3 h4 hv hw hz => ?_))
  subst h1 h2 h3 h4 hv hz
  have f61 : sx_uf s.1 66 61 w 66 61 = w := by
    rw [sx_uf_if]
    exact if_pos ⟨rfl, rfl⟩
  refine hK _ _ ?_ ?_ rfl ?_ ?_ ?_ ?_ ?_ ?_ ⟨?_, ?_⟩
  · exact cx_I_ua rfl rfl (cx_I_ua rfl rfl (cx_I_ua rfl rfl (cx_I_ua rfl rfl (cx_I_uf rfl rfl hI (by omega) (by omega)) (by decide) (by decide)) (by omega) (by omega)) (by decide) (by decide)) (by decide) (by decide)
  · exact cx_F_ua rfl (cx_F_ua rfl (cx_F_ua rfl (cx_F_ua rfl (cx_F_uf rfl (cx_F_refl _ _)))))
  · show sx_uf s.1 66 61 w 66 61 = _
    omega
  · exact rf_f_uf rfl (rf_f_refl _ _)
  · intro p j hp hq hj
    show sx_ua (sx_ua (sx_ua (sx_ua s.2.1 108 (s.1 66 61).toNat 0) 109 (s.1 66 61).toNat (s.1 66 64)) 111 (s.1 66 61).toNat 0) 124 (s.1 66 61).toNat 0 p j = _
    simp only [sx_ua_if]
    have : j ≠ (s.1 66 61).toNat := by omega
    simp only [if_neg this]
    (repeat' split) <;> rfl
  · show sx_ua (sx_ua (sx_ua (sx_ua s.2.1 108 (s.1 66 61).toNat 0) 109 (s.1 66 61).toNat (s.1 66 64)) 111 (s.1 66 61).toNat 0) 124 (s.1 66 61).toNat 0 108 _ = _
    rw [sx_ua_ne (by decide), sx_ua_ne (by decide), sx_ua_ne (by decide), sx_ua_same]
    exact if_pos rfl
  · show sx_ua (sx_ua (sx_ua (sx_ua s.2.1 108 (s.1 66 61).toNat 0) 109 (s.1 66 61).toNat (s.1 66 64)) 111 (s.1 66 61).toNat 0) 124 (s.1 66 61).toNat 0 109 _ = _
    rw [sx_ua_ne (by decide), sx_ua_ne (by decide), sx_ua_same]
    exact if_pos rfl
  · show sx_ua (sx_ua (sx_ua (sx_ua s.2.1 108 (s.1 66 61).toNat 0) 109 (s.1 66 61).toNat (s.1 66 64)) 111 (s.1 66 61).toNat 0) 124 (s.1 66 61).toNat 0 111 _ = _
    rw [sx_ua_ne (by decide), sx_ua_same]
    exact if_pos rfl
  · intro p j hp hq hj
    have : p = 124 := by omega
    subst this
    show sx_ua (sx_ua (sx_ua (sx_ua s.2.1 108 (s.1 66 61).toNat 0) 109 (s.1 66 61).toNat (s.1 66 64)) 111 (s.1 66 61).toNat 0) 124 (s.1 66 61).toNat 0 124 j = _
    rw [sx_ua_same]
    dsimp only
    rw [if_neg (by omega), sx_ua_ne (by decide), sx_ua_ne (by decide), sx_ua_ne (by decide)]
  · show sx_ua (sx_ua (sx_ua (sx_ua s.2.1 108 (s.1 66 61).toNat 0) 109 (s.1 66 61).toNat (s.1 66 64)) 111 (s.1 66 61).toNat 0) 124 (s.1 66 61).toNat 0 124 _ = _
    rw [sx_ua_same]
    exact if_pos rfl
end
section
/-! ===== the reference: fits ===== -/
/-- what may stand in a solution: a variable made since, or one of the unknown's own -/
def rf_gv (s : sx_S) (m row mark w : Int) : Prop := mark ≤ w ∨ ∃ q : Nat, (q : Int) < rf_aa s m ∧ w = s.2.1 105 (row + (q : Int)).toNat
theorem rf_gv_up {nb ib : Int} {s t : sx_S} (h : rf_EX nb ib s t) {m row mark w : Int} (hm : 0 ≤ m ∧ m < s.1 66 61) (hrow : 0 ≤ row ∧ row + rf_aa s m ≤ s.1 66 56) : rf_gv t m row mark w ↔ rf_gv s m row mark w := by
  have eaa := h.aa hm.1 hm.2
  constructor
  · rintro (z | ⟨q, q1, q2⟩)
    · exact Or.inl z
    · rw [eaa] at q1
      exact Or.inr ⟨q, q1, by rw [q2]; exact (h.2 _).2.1 (by omega)⟩
  · rintro (z | ⟨q, q1, q2⟩)
    · exact Or.inl z
    · exact Or.inr ⟨q, by omega, by rw [q2]; exact ((h.2 _).2.1 (by omega)).symm⟩
/-- the marked unknowns lie on the way, or have no way to m -/
def rf_clo (s : sx_S) (g : rf_Gh) (W : List Nat) (m : Int) : Prop := ∀ x : Nat, (x : Int) < s.1 66 61 → s.2.1 124 x ≠ 0 → x ∈ W ∨ ¬ rf_rc (rf_Ed s g) (x : Int) m
theorem rf_rc_head {E : Int → Int → Prop} {a c : Int} (h : rf_rc E a c) : ∃ b, E a b ∧ (b = c ∨ rf_rc E b c) := by
  induction h with
  | single q => exact ⟨_, q, Or.inl rfl⟩
  | tail _ q ih =>
    obtain ⟨b, b1, b2⟩ := ih
    refine ⟨b, b1, Or.inr ?_⟩
    rcases b2 with rfl | b2
    · exact .single q
    · exact .tail b2 q
theorem rf_fo_snoc {W : Nat → Int → Int → Prop} {p : rf_N} {v : Int} : ∀ {n : rf_N}, (rf_fo W (rf_snoc n p)).2 v ↔ (rf_fo W n).2 v ∨ (rf_fo W p).2 v
  | .leaf => ⟨Or.inr, fun h => h.elim (fun q => q.elim) id⟩
  | .inner j k u f x => by
    have := rf_fo_snoc (W := W) (p := p) (v := v) (n := x)
    show _ ∨ (rf_fo W (rf_snoc x p)).2 v ↔ (_ ∨ (rf_fo W x).2 v) ∨ _
    rw [this]
    exact (or_assoc).symm
/-- ways after keep -/
theorem rf_keep_Ed {nb ib : Int} {s u t : sx_S} {g g' : rf_Gh} {Vf Tf : Nat → Int} {kf : Nat → Nat} {n : Nat} {x row : Int} (hI : cx_I s) (hW : rf_KW s u Vf Tf kf n) (hA : rf_AS u t x row (s.1 66 50) (-1)) (hx : 0 ≤ x ∧ x < s.1 66 61) (hM : rf_MI nb ib t g') (hG : rf_EG s g g') : ∀ a b, rf_Ed t g' a b → rf_Ed s g a b ∨ (a = x ∧ b = s.1 66 61) := by
  obtain ⟨⟨b1, b2, b3⟩, ⟨c1, c2, c3, c4⟩, ⟨d1, d2, d3, d4, d5⟩, ⟨e1, e2, e3, e4, e5⟩, ⟨f1, f2, f3⟩, _⟩ := hW
  obtain ⟨a1, a2, a3, a4, a5, a6, a7, a8, a9⟩ := hA
  have r50 := hI.fld 66 50 (by decide) rfl
  have e61 := a3 61 rfl
  rintro a b ⟨⟨z1, z2⟩, z3, z4⟩
  by_cases e : a = x
  · subst e
    have hSV := (hM.1 a z1 z2).2.2.2 z3
    have hno := hSV.1.1
    rw [a8] at hno
    obtain ⟨f, n', q1, _⟩ := rf_nd_cons hno (by omega)
    rw [q1] at z4
    have k3 : t.2.1 100 (s.1 66 50).toNat = 3 := by rw [(a2.same 100 rfl).2]; exact e1
    have k4 : t.2.1 101 (s.1 66 50).toNat = s.1 66 61 := by rw [(a2.same 101 rfl).2]; exact e2
    rcases z4 with ⟨_, y2⟩ | ⟨y1, _⟩ | ⟨y1, _⟩
    · exact Or.inr ⟨rfl, by rw [y2]; exact k4⟩
    · dsimp only at y1
      omega
    · dsimp only at y1
      omega
  · have h1 : t.2.1 111 a.toNat = u.2.1 111 a.toNat := a5 111 _ (by omega) (by omega) (by omega)
    have hne : a ≠ s.1 66 61 := fun c => by
      rw [c] at h1 z3
      rw [h1] at z3
      exact z3 f3
    have h2 : u.2.1 111 a.toNat = s.2.1 111 a.toNat := d5 111 _ (by omega) (by omega) (by omega)
    have z3' : s.2.1 111 a.toNat ≠ 0 := by rw [← h2, ← h1]; exact z3
    refine Or.inl ⟨⟨z1, by omega⟩, z3', ?_⟩
    rw [← ((hG a z1 (by omega)).1 z3').1]
    exact z4
end
section
/-! ===== the reference: fits, its contract ===== -/
theorem rf_RM_le {e e' : Int} {s : sx_S} (h : rf_RM e s) (he : e ≤ e') : rf_RM e' s := ⟨h.1, by have := h.2.1; omega, h.2.2⟩
theorem rf_RM_same {e : Int} {s t : sx_S} (h : rf_RM e s) (e50 : t.1 66 50 = s.1 66 50) (e56 : t.1 66 56 = s.1 66 56) (e61 : t.1 66 61 = s.1 66 61) (e64 : t.1 66 64 = s.1 66 64) (e70 : t.1 66 70 = s.1 66 70) (eq : rf_qu t = rf_qu s) : rf_RM e t := by
  obtain ⟨h1, h2, h3, h4, h5, h6⟩ := h
  exact ⟨by omega, by omega, by omega, by omega, by omega, by omega⟩
theorem rf_Ed_NC {s t : sx_S} {g : rf_Gh} (h : rf_NC s t) {a b : Int} : rf_Ed t g a b ↔ rf_Ed s g a b := by
  obtain ⟨h1, h2⟩ := h
  constructor
  · rintro ⟨⟨z1, z2⟩, z3, z4⟩
    exact ⟨⟨z1, by omega⟩, by rw [← h2 a.toNat (by omega)]; exact z3, z4⟩
  · rintro ⟨⟨z1, z2⟩, z3, z4⟩
    exact ⟨⟨z1, by omega⟩, by rw [h2 a.toNat (by omega)]; exact z3, z4⟩
theorem rf_rc_NC {s t : sx_S} {g : rf_Gh} (h : rf_NC s t) {a b : Int} : rf_rc (rf_Ed t g) a b ↔ rf_rc (rf_Ed s g) a b := ⟨fun k => rf_rc_mono (fun _ _ q => (rf_Ed_NC h).mp q) k, fun k => rf_rc_mono (fun _ _ q => (rf_Ed_NC h).mpr q) k⟩
theorem rf_clo_NC {s t : sx_S} {g : rf_Gh} {W : List Nat} {m : Int} (h : rf_NC s t) (e : t.2.1 124 = s.2.1 124) (k : rf_clo s g W m) : rf_clo t g W m := by
  intro x hx hc
  rw [e] at hc
  rw [h.1] at hx
  exact (k x hx hc).imp id (fun q z => q ((rf_rc_NC h).mp z))
end
section
/-! ===== the reference: fits, put together ===== -/
/-- a row of ARGs under way -/
def rf_FL (nb mark : Int) (s u : sx_S) (g g1 : rf_Gh) (N : Int → rf_T → Prop) (y : rf_Y) (W : List Nat) (p : Nat) (b m row : Int) (f D f1 : rf_N) (x6 : Int) : Prop := f = rf_snoc D f1 ∧ (cx_I u ∧ rf_MI nb mark u g1 ∧ rf_EX (s.1 66 71) (s.1 66 58) s u ∧ rf_EG s g g1 ∧ rf_FS s u) ∧ (u.1 66 71 = s.1 66 71 ∧ u.1 66 58 = s.1 66 58) ∧ (rf_ph u g1 ≤ 1150 ∧ rf_RM 4 u ∧ rf_qu u ≤ rf_qu s) ∧ u.2.1 111 m.toNat = 0 ∧ (∃ w, rf_CR u g1 N f1 y w W (p - 1) x6 b) ∧ rf_clo u g1 W m ∧ (∀ x, rf_rc (rf_Ed u g1) x m → rf_rc (rf_Ed s g) x m) ∧ (∀ v, (rf_fo (rf_Wd u g1.2.2) D).2 v → rf_gv s m row mark (rf_look y v)) ∧ (∀ x, (rf_oc D).2 x → x ≠ m ∧ ¬ rf_rc (rf_Ed u g1) x m) ∧ (rf_am (rf_bn u) D).2
theorem rf_am_snoc {p : Nat → Int → Prop} {q : rf_N} : ∀ {n : rf_N}, (rf_am p n).2 → (rf_am p q).2 → (rf_am p (rf_snoc n q)).2
  | .leaf, _, h => h
  | .inner _ _ _ _ _, h, g => ⟨h.1, rf_am_snoc h.2 g⟩
theorem rf_bn_up {nb ib : Int} {s t : sx_S} (h : rf_EX nb ib s t) {j : Nat} {r : Int} (k : rf_bn s j r) : rf_bn t j r := by
  obtain ⟨k1, ⟨k2, k3⟩, k4, k5⟩ := k
  have e1 := h.aa k2 k3
  have e2 := ((h.2 j).1 k1).2.2.2.2
  have e3 := h.1.2.1
  have e4 := h.1.2.2.1
  have e5 := h.1.2.2.2.1
  exact ⟨by omega, ⟨k2, by omega⟩, by omega, by omega⟩
/-- the variables of an open unknown that is narrowed -/
def rf_OW (s u : sx_S) (x x8 x9 : Int) : Prop := (cx_I u ∧ cx_F [(66, 66), (105, 105)] s u ∧ rf_f [56] s u) ∧ x8 = s.1 66 56 ∧ u.1 66 56 = s.1 66 56 + s.2.1 108 x.toNat ∧ rf_ag 105 105 (s.1 66 56) s u ∧ (0 ≤ x9 ∧ x9 ≤ s.2.1 108 x.toNat) ∧ ∀ q : Nat, (q : Int) < x9 → u.2.1 105 (s.1 66 56 + (q : Int)).toNat = -2 - (q : Int)
end
section
/-! ===== the reference: bind ===== -/
/-- the row is made -/
def rf_BB (s w : sx_S) (m x5 : Int) : Prop := (cx_I w ∧ rf_EX (s.1 66 71) (s.1 66 58) s w ∧ rf_NC s w ∧ rf_FS s w) ∧ (w.1 66 71 = s.1 66 71 ∧ w.1 66 58 = s.1 66 58 ∧ w.1 66 70 = s.1 66 70 ∧ w.1 66 50 = s.1 66 50 ∧ w.1 66 61 = s.1 66 61 ∧ w.1 66 64 = s.1 66 64 ∧ s.1 66 56 ≤ w.1 66 56 ∧ w.1 66 56 ≤ s.1 66 56 + 4) ∧ ((0 ≤ x5 ∧ x5 + rf_aa w m ≤ w.1 66 56) ∧ (∀ q : Nat, (q : Int) < rf_aa w m → ∃ T, rf_py w m q T ∧ rf_vb (w.1 66 58) w (w.2.1 105 (x5 + (q : Int)).toNat) T) ∧ (∀ p q : Nat, (p : Int) < rf_aa w m → (q : Int) < rf_aa w m → w.2.1 105 (x5 + (p : Int)).toNat = w.2.1 105 (x5 + (q : Int)).toNat → p = q))
theorem rf_BB_mark {s w : sx_S} {m x5 : Int} {n : Nat} (hm : 0 ≤ m ∧ m < s.1 66 61) (h : rf_BB s w m x5) : rf_BB s (w.1, sx_ua w.2.1 124 n 0, w.2.2) m x5 := by
  obtain ⟨⟨a1, a2, a3, a4⟩, b, ⟨c1, c2, c3⟩⟩ := h
  have o : ∀ q, q ≠ 124 → sx_ua w.2.1 124 n 0 q = w.2.1 q := fun q hq => sx_ua_ne hq
  obtain ⟨e1, e2⟩ := rf_EX_mark (nb := s.1 66 71) (ib := s.1 66 58) (s := w) (n := n) (v := 0)
  have e3 := (rf_EX_mark (nb := w.1 66 71) (ib := w.1 66 58) (s := w) (n := n) (v := 0)).1
  have hmw : m < w.1 66 61 := by
    have := b.2.2.2.2.1
    omega
  have eaa : rf_aa (w.1, sx_ua w.2.1 124 n 0, w.2.2) m = rf_aa w m := e3.aa hm.1 hmw
  have e105 : ((w.1, sx_ua w.2.1 124 n 0, w.2.2) : sx_S).2.1 105 = w.2.1 105 := o 105 (by decide)
  refine ⟨⟨cx_I_ua rfl rfl a1 (by decide) (by decide), rf_EX_trans e1 a2 (Int.le_refl _) (Int.le_refl _), ⟨a3.1, fun j hj => ?_⟩, rf_FS_trans e2 a4⟩, b, ⟨by rw [eaa]; exact c1, fun q hq => ?_, fun p q hp hq e => ?_⟩⟩
  · show sx_ua w.2.1 124 n 0 111 j = _
    rw [o 111 (by decide)]
    exact a3.2 j hj
  · rw [eaa] at hq
    rw [e105]
    obtain ⟨T, t1, t2⟩ := c2 q hq
    exact ⟨T, e3.pt hm.1 hmw t1, (e3.vb (Int.le_refl _) _ _).mpr t2⟩
  · rw [eaa] at hp hq
    rw [e105] at e
    exact c3 p q hp hq e
end
section
/-! ===== the reference: unify, what it is made of ===== -/
/-- a method with such places, and pairs of numbers that fall -/
theorem sx_loopsW {wr : Bool} {sL : Nat} {sx : Nat → Int32} {d mi n : Nat} {e : mx_En} {R : Int → sx_S → Prop} {stop : sx_Sp} (I : Nat × Nat → Nat → sx_L → sx_S → Prop) (hsL : sL ≤ 3072) (he : mx_pg[mi]? = some e) (h : ∀ m pc ls s, I m pc ls s → sx_wp wr sL sx e (sx_C sL sx (d + 1)) stop (fun pc' ls' s' => ∃ m', Prod.Lex (· < ·) (· < ·) m' m ∧ I m' pc' ls' s') R n pc ls [] s) : ∀ m pc ls s, I m pc ls s → sx_E sL sx (d + 2) mi pc ls [] s R := by
  intro m
  have wf : WellFounded (Prod.Lex (fun a b : Nat => a < b) (fun a b : Nat => a < b)) := (Prod.lex ⟨_, Nat.lt_wfRel.wf⟩ ⟨_, Nat.lt_wfRel.wf⟩).wf
  induction m using wf.induction with
  | _ m ih =>
    intro pc ls s hI
    refine sx_sound hsL he (fun _ _ _ _ q => q) (fun pc' ls' s' q => ?_) n pc ls [] s (h m pc ls s hI)
    obtain ⟨m', h1, h2⟩ := q
    exact ih m' h1 pc' ls' s' h2
theorem sx_methW {wr : Bool} {sL : Nat} {sx : Nat → Int32} {d mi n n' : Nat} {e : mx_En} {R : Int → sx_S → Prop} {stop : sx_Sp} {av : List sx_V} {s : sx_S} (I : Nat × Nat → Nat → sx_L → sx_S → Prop) (hsL : sL ≤ 3072) (he : mx_pg[mi]? = some e) (h0 : sx_wp wr sL sx e (sx_C sL sx (d + 1)) stop (fun pc' ls' s' => ∃ m', I m' pc' ls' s') R n' 0 (sx_argsF 0 av) [] s) (h : ∀ m pc ls s, I m pc ls s → sx_wp wr sL sx e (sx_C sL sx (d + 1)) stop (fun pc' ls' s' => ∃ m', Prod.Lex (· < ·) (· < ·) m' m ∧ I m' pc' ls' s') R n pc ls [] s) : sx_C sL sx (d + 2) mi av s R :=
  sx_sound hsL he (fun _ _ _ _ q => q) (fun pc' ls' s' q => sx_loopsW I hsL he h q.choose pc' ls' s' q.choose_spec) n' 0 _ [] s h0
theorem rf_lex1 {a b c d : Nat} (h : a < c) : Prod.Lex (· < ·) (· < ·) (a, b) (c, d) := Prod.Lex.left _ _ h
theorem rf_lex2 {a b d : Nat} (h : b < d) : Prod.Lex (· < ·) (· < ·) (a, b) (a, d) := Prod.Lex.right _ h
theorem rf_ar2 {e p' p D : Nat} (h : e + p' ≤ p) : e + D * p' ≤ max 1 D * p := by
  rcases Nat.eq_zero_or_pos D with hD | hD
  · subst hD
    rw [Nat.zero_mul, show max 1 0 = 1 from rfl, Nat.one_mul]
    omega
  · rw [Nat.max_eq_right hD]
    have h1 : D * (e + p') ≤ D * p := Nat.mul_le_mul_left _ h
    rw [Nat.mul_add] at h1
    have h2 : e ≤ D * e := Nat.le_mul_of_pos_left _ hD
    omega
theorem rf_ar3 {e p' p M : Nat} (h : e + p' ≤ p) (hM : 1 ≤ M) : e + M * p' ≤ M * p := by
  have h1 : M * (e + p') ≤ M * p := Nat.mul_le_mul_left _ h
  rw [Nat.mul_add] at h1
  have h2 : e ≤ M * e := Nat.le_mul_of_pos_left _ hM
  omega
theorem rf_ar1 {a b c p' : Nat} (h1 : c ≤ b) (h2 : b ≤ a) : (a - c) * p' = (a - b) * p' + (b - c) * p' := by
  rw [← Nat.add_mul]
  congr 1
  omega
/-- only names were made -/
def rf_UB (s u : sx_S) (p p' : Nat) : Prop := (cx_I u ∧ rf_EX (s.1 66 71) (s.1 66 58) s u ∧ rf_NC s u ∧ rf_FS s u) ∧ (s.1 66 71 ≤ u.1 66 71 ∧ u.1 66 71 + (p' : Int) ≤ s.1 66 71 + (p : Int)) ∧ (u.1 66 58 = s.1 66 58 ∧ u.1 66 50 = s.1 66 50 ∧ u.1 66 56 = s.1 66 56 ∧ u.1 66 61 = s.1 66 61 ∧ u.1 66 64 = s.1 66 64 ∧ u.1 66 70 = s.1 66 70)
theorem rf_UB_refl {s : sx_S} {p : Nat} (hI : cx_I s) : rf_UB s s p p := ⟨⟨hI, rf_EX_refl _ _ _, ⟨rfl, fun _ _ => rfl⟩, rf_FS_refl s⟩, ⟨Int.le_refl _, Int.le_refl _⟩, rfl, rfl, rfl, rfl, rfl, rfl⟩
theorem rf_UB_s {s u t : sx_S} {p p' k : Nat} (h : rf_UB s u p p') (h1 : cx_I t) (h2 : cx_F [(66, 66), (115, 117)] u t) (h3 : rf_f [71] u t) (h4 : rf_ag 115 117 (u.1 66 71) u t) (h5 : u.1 66 71 ≤ t.1 66 71 ∧ t.1 66 71 ≤ u.1 66 71 + (k : Int)) (hk : k ≤ p') : rf_UB s t p (p' - k) := by
  obtain ⟨⟨a1, a2, a3, a4⟩, ⟨b1, b2⟩, c1, c2, c3, c4, c5, c6⟩ := h
  obtain ⟨e1, e2⟩ := rf_EX_name (ib := u.1 66 58) h2 h3 h4
  have n1 : rf_NC u t := rf_NC_F h2 rfl h3 rfl
  exact ⟨⟨h1, rf_EX_trans e1 a2 (by omega) (by omega), ⟨n1.1.trans a3.1, fun j hj => (n1.2 j (by have := a3.1; omega)).trans (a3.2 j hj)⟩, rf_FS_trans e2 a4⟩, ⟨by omega, by omega⟩, (h3 58 rfl).trans c1, (h3 50 rfl).trans c2, (h3 56 rfl).trans c3, (h3 61 rfl).trans c4, (h3 64 rfl).trans c5, (h3 70 rfl).trans c6⟩
theorem rf_UB_M {s u : sx_S} {g : rf_Gh} {p p' : Nat} (h : rf_UB s u p p') (hM : rf_MI (s.1 66 71) (s.1 66 58) s g) (hp : rf_ph s g ≤ 1150) (hR : rf_RM 0 s) : rf_MI (u.1 66 71) (u.1 66 58) u g ∧ rf_ph u g ≤ 1150 ∧ rf_RM 0 u ∧ rf_qu u = rf_qu s := by
  obtain ⟨⟨a1, a2, a3, a4⟩, ⟨b1, b2⟩, c1, c2, c3, c4, c5, c6⟩ := h
  have hq := rf_NC_qu a2 a3
  exact ⟨rf_NC_MI a2 a3 (by omega) (by omega) hM, by rw [rf_NC_ph a2 a3]; exact hp, rf_RM_same hR c2 c3 c4 c5 c6 hq, hq⟩
/-- ARGs under way -/
def rf_UL (s u : sx_S) (g g1 : rf_Gh) (e p' : Nat) : Prop := (cx_I u ∧ rf_MI (u.1 66 71) (u.1 66 58) u g1 ∧ rf_EX (s.1 66 71) (s.1 66 58) s u ∧ rf_EG s g g1 ∧ rf_FS s u) ∧ (rf_ph u g1 ≤ 1150 ∧ rf_RM 0 u ∧ rf_qu u ≤ rf_qu s) ∧ (s.1 66 71 ≤ u.1 66 71 ∧ u.1 66 71 ≤ s.1 66 71 + (e : Int) + (((rf_qu s - rf_qu u) * p' : Nat) : Int)) ∧ (s.1 66 58 ≤ u.1 66 58 ∧ u.1 66 58 ≤ s.1 66 58 + (e : Int) + (((rf_qu s - rf_qu u) * p' : Nat) : Int)) ∧ (u.1 66 70 = s.1 66 70 → rf_NC s u) ∧ (u.1 66 70 ≠ s.1 66 70 → rf_qu u < rf_qu s)
theorem rf_UL_0 {s u : sx_S} {g : rf_Gh} {p p' : Nat} (h : rf_UB s u p p') (hM : rf_MI (s.1 66 71) (s.1 66 58) s g) (hp : rf_ph s g ≤ 1150) (hR : rf_RM 0 s) (q : Nat) (hpp : p' ≤ p) : rf_UL s u g g (p - p') q := by
  obtain ⟨m1, m2, m3, m4⟩ := rf_UB_M h hM hp hR
  obtain ⟨⟨a1, a2, a3, a4⟩, ⟨b1, b2⟩, c1, c2, c3, c4, c5, c6⟩ := h
  refine ⟨⟨a1, m1, a2, rf_EG_refl _ _, a4⟩, ⟨m2, m3, by omega⟩, ⟨b1, ?_⟩, ⟨by omega, ?_⟩, fun _ => a3, fun z => absurd c6 z⟩
  · rw [m4, Nat.sub_self, Nat.zero_mul]
    omega
  · rw [m4, Nat.sub_self, Nat.zero_mul]
    omega
/-- a part that solved nothing is forgotten -/
theorem rf_UL_b {s u t : sx_S} {g g1 : rf_Gh} {e p' : Nat} {z a b : Int} (hI : cx_I s) (h : rf_UL s u g g1 e p') (k : rf_PU u t g1 z p') (hz : z ≠ 0) (h70 : t.1 66 70 = u.1 66 70) (ha : a = u.1 66 71) (hb : b = u.1 66 58) : rf_UL s (sx_uf (sx_uf t.1 66 71 a) 66 58 b, t.2) g g1 e p' ∧ rf_EX (u.1 66 71) (u.1 66 58) u (sx_uf (sx_uf t.1 66 71 a) 66 58 b, t.2) := by
  obtain ⟨⟨h1, h2, h3, h4, h5⟩, ⟨h6, h6', h6''⟩, ⟨h7, h8⟩, ⟨h9, h10⟩, h11, h12⟩ := h
  obtain ⟨k1, k2, k3, k4⟩ := k
  obtain ⟨g', j1, j2, j3, j4, j5, j6, j7, j8⟩ := k4 hz
  have hn := j7 h70
  obtain ⟨o1, o2, o3⟩ := rf_back_f (a := a) (b := b) (t := t)
  have r58 := h1.fld 66 58 (by decide) rfl
  have r71 := h1.fld 66 71 (by decide) rfl
  have hcv : cx_I (sx_uf (sx_uf t.1 66 71 a) 66 58 b, t.2) := cx_I_uf rfl rfl (cx_I_uf rfl rfl k2 (by omega) (by omega)) (by omega) (by omega)
  have hfs : rf_FS s (sx_uf (sx_uf t.1 66 71 a) 66 58 b, t.2) := rf_FS_back (rf_FS_trans k3 h5) (by omega)
  have hEB : ∀ nb ib, rf_EX nb ib t (sx_uf (sx_uf t.1 66 71 a) 66 58 b, t.2) := fun nb ib => rf_EX_back
  generalize hv : ((sx_uf (sx_uf t.1 66 71 a) 66 58 b, t.2) : sx_S) = v at hcv hfs hEB ⊢
  have v1 : v.1 = sx_uf (sx_uf t.1 66 71 a) 66 58 b := by rw [← hv]
  have v2 : v.2.1 = t.2.1 := by rw [← hv]
  have o1' : ∀ q, q ≠ 71 → q ≠ 58 → v.1 66 q = t.1 66 q := fun q a b => by rw [v1]; exact o1 q a b
  have e71 : v.1 66 71 = u.1 66 71 := by rw [v1, o2]; exact ha
  have e58 : v.1 66 58 = u.1 66 58 := by rw [v1, o3]; exact hb
  have w61 := o1' 61 (by decide) (by decide)
  have w70 := o1' 70 (by decide) (by decide)
  have hNu : rf_NC u v := ⟨w61.trans hn.1, fun q hq => by rw [v2]; exact hn.2 q hq⟩
  have hEu : rf_EX (u.1 66 71) (u.1 66 58) u v := rf_EX_trans (hEB _ _) j2 (Int.le_refl _) (Int.le_refl _)
  have hq : rf_qu v = rf_qu u := rf_NC_qu hEu hNu
  refine ⟨⟨⟨hcv, ?_, rf_EX_trans hEu h3 (by omega) (by omega), h4, hfs⟩, ⟨by rw [rf_NC_ph hEu hNu]; exact h6, ?_, by omega⟩, ⟨by omega, by rw [hq]; omega⟩, ⟨by omega, by rw [hq]; omega⟩, fun q => ?_, fun q => by rw [hq]; exact h12 (by omega)⟩, hEu⟩
  · rw [e71, e58]
    exact rf_NC_MI hEu hNu (Int.le_refl _) (Int.le_refl _) h2
  · obtain ⟨s1, s2, s3, s4, s5, s6⟩ := j4.2.1
    have hqt : rf_qu t = rf_qu u := rf_NC_qu j2 hn
    have w50 := o1' 50 (by decide) (by decide)
    have w56 := o1' 56 (by decide) (by decide)
    have w64 := o1' 64 (by decide) (by decide)
    exact ⟨by omega, by omega, by omega, by omega, by omega, by omega⟩
  · have h13 := h11 (by omega)
    exact ⟨hNu.1.trans h13.1, fun j hj => (hNu.2 j (by have := h13.1; omega)).trans (h13.2 j hj)⟩
end
section
theorem rf_bud {x y : Int} {q p p' : Nat} (hb : x + (((q + 1) * p : Nat) : Int) ≤ 390000) (h : y + (p' : Int) ≤ x + (p : Int)) (hp : p' ≤ p) : y + (((q + 1) * p' : Nat) : Int) ≤ 390000 := by
  have := rf_ar3 (e := p - p') (p' := p') (p := p) (M := q + 1) (by omega) (by omega)
  omega
theorem rf_bud1 {x : Int} {q p : Nat} (hb : x + (((q + 1) * p : Nat) : Int) ≤ 390000) : x + (p : Int) ≤ 390000 := by
  have : p ≤ (q + 1) * p := Nat.le_mul_of_pos_left _ (by omega)
  omega
def rf_U2 (s u : sx_S) (g : rf_Gh) (x : rf_T) (pa0 pb0 : Nat) (NA NB : Int → rf_T → Prop) (A B : rf_N) (yA yB : rf_Y) (WA WB : List Nat) (pa pb : Nat) (x5 x6 x7 x8 : Int) : Prop := rf_UB s u (pa0 + pb0) (pa + pb) ∧ rf_CL u g NA A yA x WA pa x5 x6 ∧ rf_CL u g NB B yB x WB pb x7 x8 ∧ pa ≤ pa0 ∧ pb ≤ pb0
/-- it is no solved unknown; what its head is called; it has a head -/
def rf_op (u : sx_S) (i : Int) : Prop := u.2.1 100 i.toNat = 3 → u.2.1 111 (u.2.1 101 i.toNat).toNat = 0
def rf_hv (u : sx_S) (y : rf_Y) (i v : Int) : Prop := v = (if u.2.1 100 i.toNat = 2 then rf_look y (u.2.1 101 i.toNat) else u.2.1 101 i.toNat)
def rf_hk (u : sx_S) (i : Int) : Prop := u.2.1 100 i.toNat = 1 ∨ u.2.1 100 i.toNat = 2
def rf_fst : rf_N → rf_N
  | .leaf => .leaf
  | .inner _ _ _ f _ => f
end
section
/-! ===== the reference: unify, its contract ===== -/
theorem rf_hk_CL {u : sx_S} {g : rf_Gh} {N : Int → rf_T → Prop} {A : rf_N} {y : rf_Y} {x : rf_T} {W : List Nat} {p : Nat} {i b v : Int} (hI : cx_I u) (k : rf_CL u g N A y x W p i b) (hk : rf_hk u i) (hv : rf_hv u y i v) (hp : 1 ≤ p) : x = .leaf ∧ (-2147483648 ≤ v ∧ v ≤ 2147483647) ∧ ∃ w, rf_CR u g N (rf_fst A) y w W (p - 1) (u.2.1 102 i.toNat) b ∧ ((u.2.1 100 i.toNat = 2 ∧ rf_vb (u.1 66 58) u v w) ∨ (u.2.1 100 i.toNat = 1 ∧ rf_is u w (u.2.1 96 v.toNat))) := by
  obtain ⟨j, kk, uu, f, n, eA, e1, e2, e3, e4, e5, e6, e7, e8⟩ := rf_CL_node k
  subst eA
  have h101 := hI.arr 101 (by decide) rfl i.toNat
  have kN := k.1.2.2.2
  have hl := rf_look_in hI kN.1 h101
  unfold rf_hv at hv
  unfold rf_hk at hk
  rw [e2] at hv hk h101 hl ⊢
  rw [e4] at hv hk ⊢
  rw [e5] at hv h101 hl
  rcases e8 with ⟨c, _⟩ | ⟨c, hx, w, hw, hf⟩
  · omega
  · refine ⟨hx, ?_, w, rf_CL_app k hk hf hp, ?_⟩
    · by_cases c2 : kk.1 = 2
      · rw [if_pos c2] at hv
        rw [hv]
        exact hl
      · rw [if_neg c2] at hv
        rw [hv]
        exact h101
    · rcases hk with hk | hk
      · rw [if_neg (by omega)] at hv
        rw [hv]
        exact Or.inr ⟨hk, (rf_Hn_1 hw hk).2⟩
      · rw [if_pos hk] at hv
        rw [hv]
        exact Or.inl ⟨hk, kN.2.2.1 _ w (Or.inl (rf_Hn_02 hw (Or.inr hk)))⟩
end
section
/-! ===== THE TEXT, pure: blanks, words, tokens ===== -/
abbrev px_bl (c : Int) : Prop := c = 9 ∨ c = 10 ∨ c = 13 ∨ c = 32
abbrev px_le (c : Int) : Prop := (97 ≤ c ∧ c ≤ 122) ∨ (65 ≤ c ∧ c ≤ 90)
abbrev px_wd (c : Int) : Prop := px_le c ∨ (48 ≤ c ∧ c ≤ 57)
def px_blb (c : Int) : Bool := decide (px_bl c)
def px_wdb (c : Int) : Bool := decide (px_wd c)
/-- from k on, as long as p holds of the bytes of the text -/
def px_rn (p : Int → Bool) (b : Nat → Int) (n : Int) : Nat → Int → Int
  | 0, k => k
  | f + 1, k => if k < n ∧ p (b k.toNat) = true then px_rn p b n f (k + 1) else k
def px_ru (p : Int → Bool) (b : Nat → Int) (n k : Int) : Int := px_rn p b n (n - k).toNat k
theorem px_ru_go {p : Int → Bool} {b : Nat → Int} {n k : Int} (h : k < n) (hp : p (b k.toNat) = true) : px_ru p b n k = px_ru p b n (k + 1) := by
  unfold px_ru
  obtain ⟨f, hf⟩ : ∃ f, (n - k).toNat = f + 1 := ⟨(n - k).toNat - 1, by omega⟩
  have e : (n - (k + 1)).toNat = f := by omega
  rw [hf, e, px_rn, if_pos ⟨h, hp⟩]
theorem px_ru_st {p : Int → Bool} {b : Nat → Int} {n k : Int} (h : ¬ (k < n ∧ p (b k.toNat) = true)) : px_ru p b n k = k := by
  unfold px_ru
  cases (n - k).toNat with
  | zero => rfl
  | succ f => rw [px_rn, if_neg h]
theorem px_rn_ge {p : Int → Bool} {b : Nat → Int} {n : Int} : ∀ (f : Nat) (k : Int), k ≤ px_rn p b n f k
  | 0, k => Int.le_refl k
  | f + 1, k => by
    rw [px_rn]
    split
    · have := px_rn_ge (p := p) (b := b) (n := n) f (k + 1)
      omega
    · exact Int.le_refl k
theorem px_ru_ge {p : Int → Bool} {b : Nat → Int} {n k : Int} : k ≤ px_ru p b n k := px_rn_ge _ _
theorem px_rn_le {p : Int → Bool} {b : Nat → Int} {n : Int} : ∀ (f : Nat) (k : Int), k ≤ n → px_rn p b n f k ≤ n
  | 0, k, h => h
  | f + 1, k, h => by
    rw [px_rn]
    split
    · rename_i q
      exact px_rn_le f (k + 1) (by have := q.1; omega)
    · exact h
theorem px_ru_le {p : Int → Bool} {b : Nat → Int} {n k : Int} (h : k ≤ n) : px_ru p b n k ≤ n := px_rn_le _ _ h
/-- a word's kind, a sign's kind; kinds: 0 the end, 1 none, 2 NAME, 3 con, 4 met, 5 eq, 6 o, 7 i, 8 the arrow, 9 .. 15 ( ) \ : . ; = -/
def px_wq (j : Nat) (b : Nat → Int) (k e : Int) : Bool := match j with
  | 1 => decide (e - k = 3 ∧ b (k + 0).toNat = 99 ∧ b (k + 1).toNat = 111 ∧ b (k + 2).toNat = 110)
  | 2 => decide (e - k = 3 ∧ b (k + 0).toNat = 109 ∧ b (k + 1).toNat = 101 ∧ b (k + 2).toNat = 116)
  | 3 => decide (e - k = 2 ∧ b (k + 0).toNat = 101 ∧ b (k + 1).toNat = 113)
  | 4 => decide (e - k = 1 ∧ b (k + 0).toNat = 111)
  | _ => decide (e - k = 1 ∧ b (k + 0).toNat = 105)
def px_wk (b : Nat → Int) (k e : Int) : Int := if 8 < e - k then 1 else cond (px_wq 1 b k e) 3 (cond (px_wq 2 b k e) 4 (cond (px_wq 3 b k e) 5 (cond (px_wq 4 b k e) 6 (cond (px_wq 5 b k e) 7 2))))
theorem px_wk_0 (b : Nat → Int) (k e : Int) : px_wk b k e ≠ 0 := by
  unfold px_wk
  split
  · decide
  · cases px_wq 1 b k e <;> cases px_wq 2 b k e <;> cases px_wq 3 b k e <;> cases px_wq 4 b k e <;> cases px_wq 5 b k e <;> decide
def px_s7 (c : Int) : Int := if c = 40 then 9 else if c = 41 then 10 else if c = 92 then 11 else if c = 58 then 12 else if c = 46 then 13 else if c = 59 then 14 else if c = 61 then 15 else 1
def px_sg (b : Nat → Int) (n k : Int) : Int := if b k.toNat = 45 then (if k + 1 < n ∧ b (k + 1).toNat = 62 then 8 else 1) else px_s7 (b k.toNat)
theorem px_s7_v (c : Int) : px_s7 c ≠ 0 ∧ px_s7 c ≠ 8 := by
  unfold px_s7
  (repeat' split) <;> decide
def px_kd (b : Nat → Int) (n k : Int) : Int := if n ≤ k then 0 else if px_le (b k.toNat) then px_wk b k (px_ru px_wdb b n k) else px_sg b n k
def px_en (b : Nat → Int) (n k : Int) : Int := if n ≤ k then k else if px_le (b k.toNat) then px_ru px_wdb b n k else if px_sg b n k = 8 then k + 2 else k + 1
/-- where token i begins, its kind; it is looked at only where none before it is the end or none -/
def px_ps (b : Nat → Int) (n : Int) : Nat → Int
  | 0 => px_ru px_blb b n 0
  | i + 1 => px_ru px_blb b n (px_en b n (px_ps b n i))
def px_K (b : Nat → Int) (n : Int) (i : Nat) : Int := px_kd b n (px_ps b n i)
def px_lv (b : Nat → Int) (n : Int) (i : Nat) : Prop := ∀ j, j < i → px_K b n j ≠ 0 ∧ px_K b n j ≠ 1
/-- tokens i and j have the same bytes -/
def px_sn (b : Nat → Int) (n : Int) (i j : Nat) : Prop := True → px_en b n (px_ps b n i) - px_ps b n i = px_en b n (px_ps b n j) - px_ps b n j ∧ ∀ k : Int, 0 ≤ k → k < px_en b n (px_ps b n i) - px_ps b n i → b (px_ps b n i + k).toNat = b (px_ps b n j + k).toNat
theorem px_en_gt {b : Nat → Int} {n k : Int} (h : k < n) : k < px_en b n k := by
  unfold px_en
  rw [if_neg (by omega)]
  split
  · rename_i q
    have hp : px_wdb (b k.toNat) = true := decide_eq_true (Or.inl q)
    rw [px_ru_go h hp]
    have := px_ru_ge (p := px_wdb) (b := b) (n := n) (k := k + 1)
    omega
  · split <;> omega
theorem px_en_le {b : Nat → Int} {n k : Int} (h : k ≤ n) : px_en b n k ≤ n := by
  unfold px_en
  split
  · exact h
  · split
    · exact px_ru_le h
    · split
      · rename_i e
        unfold px_sg at e
        split at e
        · split at e
          · rename_i q3
            omega
          · exact absurd e (by decide)
        · exact absurd e (px_s7_v _).2
      · omega
theorem px_kd_0 {b : Nat → Int} {n k : Int} (h : px_kd b n k = 0) : n ≤ k := by
  unfold px_kd at h
  split at h
  · assumption
  · split at h
    · exact absurd h (px_wk_0 _ _ _)
    · unfold px_sg at h
      split at h
      · split at h <;> exact absurd h (by decide)
      · exact absurd h (px_s7_v _).1
/-- a token's kind as the reference numbers it -/
def px_rc (k : Int) : Int := if k = 0 then 7 else if k = 1 then 8 else if k = 2 then 1 else if k = 3 then 2 else if k = 4 then 3 else if k = 5 then 4 else if k = 6 then 5 else if k = 7 then 6 else if k = 8 then 9 else if k = 9 then 40 else if k = 10 then 41 else if k = 11 then 92 else if k = 12 then 58 else if k = 13 then 46 else if k = 14 then 59 else 61
theorem px_kdw {b : Nat → Int} {n a m : Int} (h1 : a < n) (h2 : px_le (b a.toNat)) (h3 : px_ru px_wdb b n (a + m) = px_ru px_wdb b n a) (h4 : ¬ (a + m < n ∧ px_wd (b (a + m).toNat))) : px_kd b n a = px_wk b a (a + m) ∧ px_en b n a = a + m := by
  have e : px_ru px_wdb b n a = a + m := by
    rw [← h3]
    exact px_ru_st (fun q => h4 ⟨q.1, of_decide_eq_true q.2⟩)
  have h5 : ¬ n ≤ a := by omega
  unfold px_kd px_en
  simp only [if_neg h5, if_pos h2, e, and_self]
theorem px_kds {b : Nat → Int} {n a : Int} (h1 : a < n) (h2 : ¬ px_le (b a.toNat)) : px_kd b n a = px_sg b n a ∧ px_en b n a = (if px_sg b n a = 8 then a + 2 else a + 1) := by
  have h5 : ¬ n ≤ a := by omega
  unfold px_kd px_en
  simp only [if_neg h5, if_neg h2, and_self]
theorem px_kde {b : Nat → Int} {n a : Int} (h1 : n ≤ a) : px_kd b n a = 0 ∧ px_en b n a = a := by
  unfold px_kd px_en
  rw [if_pos h1, if_pos h1]
  exact ⟨rfl, rfl⟩
theorem px_ps_le {b : Nat → Int} {n : Int} (h : 0 ≤ n) : ∀ i, px_ps b n i ≤ n
  | 0 => px_ru_le h
  | i + 1 => px_ru_le (px_en_le (px_ps_le h i))
theorem px_ps_ge {b : Nat → Int} {n : Int} : ∀ i, 0 ≤ px_ps b n i
  | 0 => px_ru_ge
  | i + 1 => by
    have h0 := px_ps_ge (b := b) (n := n) i
    have h1 := px_ru_ge (p := px_blb) (b := b) (n := n) (k := px_en b n (px_ps b n i))
    have h2 : px_ps b n i ≤ px_en b n (px_ps b n i) := by
      rcases Int.lt_or_le (px_ps b n i) n with q | q
      · have := px_en_gt (b := b) q
        omega
      · rw [(px_kde q).2]
        exact Int.le_refl _
    show 0 ≤ px_ru px_blb b n (px_en b n (px_ps b n i))
    omega
theorem px_en_ge {b : Nat → Int} {n k : Int} : k ≤ px_en b n k := by
  rcases Int.lt_or_le k n with q | q
  · have := px_en_gt (b := b) q
    omega
  · rw [(px_kde q).2]
    exact Int.le_refl _
/-- the same bytes, as far as the first x go -/
def px_sp (b : Nat → Int) (n : Int) (i j : Nat) (x : Int) : Prop := True → px_en b n (px_ps b n i) - px_ps b n i = px_en b n (px_ps b n j) - px_ps b n j ∧ ∀ k : Int, 0 ≤ k → k < x → b (px_ps b n i + k).toNat = b (px_ps b n j + k).toNat
theorem px_sp_go {b : Nat → Int} {n : Int} {i j : Nat} {x : Int} (h : px_sp b n i j x) (e : b (px_ps b n i + x).toNat = b (px_ps b n j + x).toNat) : px_sp b n i j (x + 1) := by
  refine fun _ => ⟨(h trivial).1, fun k k0 k1 => ?_⟩
  rcases Int.lt_or_le k x with q | q
  · exact (h trivial).2 k k0 q
  · have : k = x := by omega
    rw [this]
    exact e
theorem px_sp_end {b : Nat → Int} {n : Int} {i j : Nat} {x : Int} (h : px_sp b n i j x) (e : px_en b n (px_ps b n i) - px_ps b n i ≤ x) : px_sn b n i j := fun _ => ⟨(h trivial).1, fun k k0 k1 => (h trivial).2 k k0 (by omega)⟩
theorem px_sn_no {b : Nat → Int} {n : Int} {i j : Nat} {x : Int} (h0 : 0 ≤ x) (h1 : x < px_en b n (px_ps b n i) - px_ps b n i) (e : b (px_ps b n i + x).toNat ≠ b (px_ps b n j + x).toNat) : ¬ px_sn b n i j := fun h => e ((h trivial).2 x h0 h1)
theorem px_sn_nl {b : Nat → Int} {n : Int} {i j : Nat} (e : px_en b n (px_ps b n i) - px_ps b n i ≠ px_en b n (px_ps b n j) - px_ps b n j) : ¬ px_sn b n i j := fun h => e (h trivial).1
/-! only the text's own bytes count -/
theorem px_rn_cg {p : Int → Bool} {b c : Nat → Int} {n : Int} (h : ∀ k : Nat, (k : Int) < n → b k = c k) : ∀ (f : Nat) (k : Int), 0 ≤ k → px_rn p b n f k = px_rn p c n f k
  | 0, _, _ => rfl
  | f + 1, k, h0 => by
    rw [px_rn, px_rn]
    by_cases q : k < n
    · rw [h k.toNat (by omega), px_rn_cg h f (k + 1) (by omega)]
    · rw [if_neg (fun z => q z.1), if_neg (fun z => q z.1)]
theorem px_ru_cg {p : Int → Bool} {b c : Nat → Int} {n k : Int} (h : ∀ k : Nat, (k : Int) < n → b k = c k) (h0 : 0 ≤ k) : px_ru p b n k = px_ru p c n k := px_rn_cg h _ _ h0
theorem px_wk_cg {b c : Nat → Int} {n k e : Int} (h : ∀ k : Nat, (k : Int) < n → b k = c k) (h0 : 0 ≤ k) (he : e ≤ n) : px_wk b k e = px_wk c k e := by
  have g : ∀ i : Int, 0 ≤ i → k + i < e → b (k + i).toNat = c (k + i).toNat := fun i i0 i1 => h _ (by omega)
  have a3 : ∀ x y z : Int, (e - k = 3 ∧ b (k + 0).toNat = x ∧ b (k + 1).toNat = y ∧ b (k + 2).toNat = z) = (e - k = 3 ∧ c (k + 0).toNat = x ∧ c (k + 1).toNat = y ∧ c (k + 2).toNat = z) := by
    intro x y z
    by_cases q : e - k = 3
    · rw [g 0 (by omega) (by omega), g 1 (by omega) (by omega), g 2 (by omega) (by omega)]
    · simp [q]
  have a2 : ∀ x y : Int, (e - k = 2 ∧ b (k + 0).toNat = x ∧ b (k + 1).toNat = y) = (e - k = 2 ∧ c (k + 0).toNat = x ∧ c (k + 1).toNat = y) := by
    intro x y
    by_cases q : e - k = 2
    · rw [g 0 (by omega) (by omega), g 1 (by omega) (by omega)]
    · simp [q]
  have a1 : ∀ x : Int, (e - k = 1 ∧ b (k + 0).toNat = x) = (e - k = 1 ∧ c (k + 0).toNat = x) := by
    intro x
    by_cases q : e - k = 1
    · rw [g 0 (by omega) (by omega)]
    · simp [q]
  have q : ∀ j, px_wq j b k e = px_wq j c k e := by
    intro j
    unfold px_wq
    split <;> simp only [a3, a2, a1]
  unfold px_wk
  simp only [q]
theorem px_sg_cg {b c : Nat → Int} {n k : Int} (h : ∀ k : Nat, (k : Int) < n → b k = c k) (h0 : 0 ≤ k) (hk : k < n) : px_sg b n k = px_sg c n k := by
  have a : (k + 1 < n ∧ b (k + 1).toNat = 62) = (k + 1 < n ∧ c (k + 1).toNat = 62) := by
    by_cases q : k + 1 < n
    · rw [h (k + 1).toNat (by omega)]
    · simp [q]
  unfold px_sg
  simp only [a, h k.toNat (by omega)]
theorem px_kd_cg {b c : Nat → Int} {n k : Int} (h : ∀ k : Nat, (k : Int) < n → b k = c k) (h0 : 0 ≤ k) : px_kd b n k = px_kd c n k ∧ px_en b n k = px_en c n k := by
  rcases Int.lt_or_le k n with q | q
  · unfold px_kd px_en
    have e1 := h k.toNat (by omega)
    rw [px_ru_cg h h0, px_sg_cg h h0 q, px_wk_cg h h0 (px_ru_le (by omega)), e1]
    exact ⟨rfl, rfl⟩
  · rw [(px_kde q).1, (px_kde q).1, (px_kde q).2, (px_kde q).2]
    exact ⟨rfl, rfl⟩
theorem px_ps_cg {b c : Nat → Int} {n : Int} (h : ∀ k : Nat, (k : Int) < n → b k = c k) : ∀ i, px_ps b n i = px_ps c n i
  | 0 => px_ru_cg h (by omega)
  | i + 1 => by
    show px_ru px_blb b n (px_en b n (px_ps b n i)) = px_ru px_blb c n (px_en c n (px_ps c n i))
    rw [← px_ps_cg h i, ← (px_kd_cg h (px_ps_ge i)).2]
    exact px_ru_cg h (Int.le_trans (px_ps_ge (b := b) (n := n) i) px_en_ge)
theorem px_K_cg {b c : Nat → Int} {n : Int} (h : ∀ k : Nat, (k : Int) < n → b k = c k) : px_K b n = px_K c n := by
  funext i
  unfold px_K
  rw [← px_ps_cg h i]
  exact (px_kd_cg h (px_ps_ge i)).1
theorem px_sn_cg {b c : Nat → Int} {n : Int} (h : ∀ k : Nat, (k : Int) < n → b k = c k) (i j : Nat) (hn : 0 ≤ n) : px_sn b n i j ↔ px_sn c n i j := by
  have e1 := px_ps_cg h i
  have e2 := px_ps_cg h j
  have f1 : px_en b n (px_ps b n i) = px_en c n (px_ps c n i) := by rw [← e1]; exact (px_kd_cg h (px_ps_ge i)).2
  have f2 : px_en b n (px_ps b n j) = px_en c n (px_ps c n j) := by rw [← e2]; exact (px_kd_cg h (px_ps_ge j)).2
  have l1 : px_en c n (px_ps c n i) ≤ n := px_en_le (px_ps_le hn i)
  have l2 : px_en c n (px_ps c n j) ≤ n := px_en_le (px_ps_le hn j)
  have g1 := px_ps_ge (b := c) (n := n) i
  have g2 := px_ps_ge (b := c) (n := n) j
  unfold px_sn
  rw [f1, f2, e1, e2]
  constructor
  · intro q _
    obtain ⟨q1, q2⟩ := q trivial
    refine ⟨q1, fun k k0 k1 => ?_⟩
    rw [← h _ (by omega), ← h _ (by omega)]
    exact q2 k k0 k1
  · intro q _
    obtain ⟨q1, q2⟩ := q trivial
    refine ⟨q1, fun k k0 k1 => ?_⟩
    rw [h _ (by omega), h _ (by omega)]
    exact q2 k k0 k1
theorem px_wk_1 {b : Nat → Int} {k e : Int} (h : 8 < e - k) : px_wk b k e = 1 := if_pos h
theorem px_wk_3 {b : Nat → Int} {k e : Int} (h : e - k ≤ 8) {z1 : Int} (h1 : z1 ≠ 0 → px_wq 1 b k e = true) (g1 : z1 ≠ 0) : px_wk b k e = 3 := by
  unfold px_wk
  rw [if_neg (by omega), h1 g1]
  rfl
theorem px_wk_4 {b : Nat → Int} {k e : Int} (h : e - k ≤ 8) {z1 : Int} (h1 : z1 = 0 → px_wq 1 b k e = false) (g1 : z1 = 0) {z2 : Int} (h2 : z2 ≠ 0 → px_wq 2 b k e = true) (g2 : z2 ≠ 0) : px_wk b k e = 4 := by
  unfold px_wk
  rw [if_neg (by omega), h1 g1, h2 g2]
  rfl
theorem px_wk_5 {b : Nat → Int} {k e : Int} (h : e - k ≤ 8) {z1 : Int} (h1 : z1 = 0 → px_wq 1 b k e = false) (g1 : z1 = 0) {z2 : Int} (h2 : z2 = 0 → px_wq 2 b k e = false) (g2 : z2 = 0) {z3 : Int} (h3 : z3 ≠ 0 → px_wq 3 b k e = true) (g3 : z3 ≠ 0) : px_wk b k e = 5 := by
  unfold px_wk
  rw [if_neg (by omega), h1 g1, h2 g2, h3 g3]
  rfl
theorem px_wk_6 {b : Nat → Int} {k e : Int} (h : e - k ≤ 8) {z1 : Int} (h1 : z1 = 0 → px_wq 1 b k e = false) (g1 : z1 = 0) {z2 : Int} (h2 : z2 = 0 → px_wq 2 b k e = false) (g2 : z2 = 0) {z3 : Int} (h3 : z3 = 0 → px_wq 3 b k e = false) (g3 : z3 = 0) {z4 : Int} (h4 : z4 ≠ 0 → px_wq 4 b k e = true) (g4 : z4 ≠ 0) : px_wk b k e = 6 := by
  unfold px_wk
  rw [if_neg (by omega), h1 g1, h2 g2, h3 g3, h4 g4]
  rfl
theorem px_wk_7 {b : Nat → Int} {k e : Int} (h : e - k ≤ 8) {z1 : Int} (h1 : z1 = 0 → px_wq 1 b k e = false) (g1 : z1 = 0) {z2 : Int} (h2 : z2 = 0 → px_wq 2 b k e = false) (g2 : z2 = 0) {z3 : Int} (h3 : z3 = 0 → px_wq 3 b k e = false) (g3 : z3 = 0) {z4 : Int} (h4 : z4 = 0 → px_wq 4 b k e = false) (g4 : z4 = 0) {z5 : Int} (h5 : z5 ≠ 0 → px_wq 5 b k e = true) (g5 : z5 ≠ 0) : px_wk b k e = 7 := by
  unfold px_wk
  rw [if_neg (by omega), h1 g1, h2 g2, h3 g3, h4 g4, h5 g5]
  rfl
theorem px_wk_2 {b : Nat → Int} {k e : Int} (h : e - k ≤ 8) {z1 : Int} (h1 : z1 = 0 → px_wq 1 b k e = false) (g1 : z1 = 0) {z2 : Int} (h2 : z2 = 0 → px_wq 2 b k e = false) (g2 : z2 = 0) {z3 : Int} (h3 : z3 = 0 → px_wq 3 b k e = false) (g3 : z3 = 0) {z4 : Int} (h4 : z4 = 0 → px_wq 4 b k e = false) (g4 : z4 = 0) {z5 : Int} (h5 : z5 = 0 → px_wq 5 b k e = false) (g5 : z5 = 0) : px_wk b k e = 2 := by
  unfold px_wk
  rw [if_neg (by omega), h1 g1, h2 g2, h3 g3, h4 g4, h5 g5]
  rfl
theorem px_kd_s7 {b : Nat → Int} {n a c : Int} (h1 : a < n) (h2 : ¬ px_le (b a.toNat)) (h3 : ¬ (b a.toNat = 45 ∧ a + 1 < n ∧ b (a + 1).toNat = 62)) (hc : c = b a.toNat) : px_kd b n a = px_s7 c ∧ px_en b n a = a + 1 := by
  have e : px_sg b n a = px_s7 c := by
    unfold px_sg
    split
    · rename_i q
      rw [if_neg (fun z => h3 ⟨q, z⟩), hc, q]
      rfl
    · rw [hc]
  obtain ⟨g1, g2⟩ := px_kds h1 h2
  rw [g1, g2, e, if_neg (px_s7_v c).2]
  exact ⟨rfl, rfl⟩
theorem px_kd_ax {b : Nat → Int} {n a : Int} (h1 : a < n) (h2 : b a.toNat = 45) (h3 : a + 1 < n) (h4 : b (a + 1).toNat = 62) : px_kd b n a = 8 ∧ px_en b n a = a + 2 := by
  have e : px_sg b n a = 8 := by
    unfold px_sg
    rw [if_pos h2, if_pos ⟨h3, h4⟩]
  obtain ⟨g1, g2⟩ := px_kds (b := b) h1 (by omega)
  rw [g1, g2, e]
  exact ⟨rfl, rfl⟩
theorem px_s7_no {c : Int} (h : c ≠ 40 ∧ c ≠ 41 ∧ c ≠ 92 ∧ c ≠ 58 ∧ c ≠ 46 ∧ c ≠ 59 ∧ c ≠ 61) : px_s7 c = 1 := by
  unfold px_s7
  rw [if_neg h.1, if_neg h.2.1, if_neg h.2.2.1, if_neg h.2.2.2.1, if_neg h.2.2.2.2.1, if_neg h.2.2.2.2.2.1, if_neg h.2.2.2.2.2.2]
theorem px_s7_rc {c : Int} (h : c = 40 ∨ c = 41 ∨ c = 92 ∨ c = 58 ∨ c = 46 ∨ c = 59 ∨ c = 61) : c = px_rc (px_s7 c) := by
  rcases h with rfl | rfl | rfl | rfl | rfl | rfl | rfl <;> rfl
theorem px_sp_0 {b : Nat → Int} {n : Int} {i j : Nat} {x : Int} (hx : x ≤ 0) (e : px_en b n (px_ps b n i) - px_ps b n i = px_en b n (px_ps b n j) - px_ps b n j) : px_sp b n i j x := fun _ => ⟨e, fun k k0 k1 => by omega⟩
end
section
/-! ===== WHAT IS READ, pure: types with their atoms, terms, by the tokens' kinds ===== -/
abbrev qx_T : Type := Std.DTreeMap.Internal.Impl Bool (fun _ => Unit)
abbrev qx_o : qx_T := .leaf
abbrev qx_i : qx_T := .inner 0 true () .leaf .leaf
abbrev qx_a (x y : qx_T) : qx_T := .inner 0 false () x y
/-- how many o and i -/
def qx_at : qx_T → Nat
  | .leaf => 1
  | .inner _ k _ x y => cond k 1 (qx_at x + qx_at y)
/-- a type by rows of what is left and right of arrows, 0 for o, 1 for i -/
def qx_ty (L R : Nat → Int) (N : Int) : qx_T → Int → Prop
  | .leaf, t => t = 0
  | .inner j k _ x y, t => j = 0 ∧ ((k = true ∧ x = .leaf ∧ y = .leaf ∧ t = 1) ∨ (k = false ∧ (2 ≤ t ∧ t < N) ∧ qx_ty L R N x (L t.toNat) ∧ qx_ty L R N y (R t.toNat)))
/-- as shapes -/
def qx_sh : qx_T → rf_T
  | .leaf => rf_b
  | .inner _ k _ x y => cond k rf_b (rf_a (qx_sh x) (qx_sh y))
/-- a TYPE of depth below f, from token a on: its type, the place behind it -/
def px_TY (K : Nat → Int) : Nat → Int → qx_T → Int → Prop
  | 0, _, _, _ => False
  | f + 1, a, x, c => ∃ y e, ((K a.toNat = 6 ∧ y = qx_o ∧ e = a + 1) ∨ (K a.toNat = 7 ∧ y = qx_i ∧ e = a + 1) ∨ (K a.toNat = 9 ∧ ∃ g, px_TY K f (a + 1) y g ∧ K g.toNat = 10 ∧ e = g + 1)) ∧ ((K e.toNat = 8 ∧ ∃ w, px_TY K f (e + 1) w c ∧ x = qx_a y w) ∨ (K e.toNat ≠ 8 ∧ x = y ∧ c = e))
/-- a term: tag 0: \ (NAME's token, type), body; tag 1: a NAME's token, its ARGs; then what stands next in a row -/
abbrev px_N : Type := Std.DTreeMap.Internal.Impl (Int × qx_T) (fun _ => Unit)
abbrev px_lam (a : Int) (x : qx_T) (f n : px_N) : px_N := .inner 0 (a, x) () f n
abbrev px_app (a : Int) (f n : px_N) : px_N := .inner 1 (a, .leaf) () f n
def px_snoc : px_N → px_N → px_N
  | .leaf, p => p
  | .inner j k u f x, p => .inner j k u f (px_snoc x p)
/-- ARGs from token a on, behind those of r, in at most g steps; T: what stands in brackets -/
def px_ARg (K : Nat → Int) (T : Int → px_N → Int → Prop) : Nat → Int → px_N → px_N → Int → Prop
  | 0, _, _, _, _ => False
  | g + 1, a, r, r', c => (K a.toNat = 9 ∧ ∃ t e, T (a + 1) t e ∧ K e.toNat = 10 ∧ px_ARg K T g (e + 1) (px_snoc r t) r' c) ∨ (K a.toNat = 2 ∧ px_ARg K T g (a + 1) (px_snoc r (px_app a .leaf .leaf)) r' c) ∨ (K a.toNat ≠ 9 ∧ K a.toNat ≠ 2 ∧ r' = r ∧ c = a)
def px_AR (K : Nat → Int) (T : Int → px_N → Int → Prop) (a : Int) (r r' : px_N) (c : Int) : Prop := ∃ g, px_ARg K T g a r r' c
theorem px_AR_it {K : Nat → Int} {T : Int → px_N → Int → Prop} {a : Int} {r r' : px_N} {c : Int} : px_AR K T a r r' c ↔ (K a.toNat = 9 ∧ ∃ t e, T (a + 1) t e ∧ K e.toNat = 10 ∧ px_AR K T (e + 1) (px_snoc r t) r' c) ∨ (K a.toNat = 2 ∧ px_AR K T (a + 1) (px_snoc r (px_app a .leaf .leaf)) r' c) ∨ (K a.toNat ≠ 9 ∧ K a.toNat ≠ 2 ∧ r' = r ∧ c = a) := by
  constructor
  · rintro ⟨g, h⟩
    cases g with
    | zero => exact h.elim
    | succ g =>
      rcases h with ⟨h1, t, e, h2, h3, h4⟩ | ⟨h1, h2⟩ | h
      · exact Or.inl ⟨h1, t, e, h2, h3, g, h4⟩
      · exact Or.inr (Or.inl ⟨h1, g, h2⟩)
      · exact Or.inr (Or.inr h)
  · rintro (⟨h1, t, e, h2, h3, g, h4⟩ | ⟨h1, g, h2⟩ | h)
    · exact ⟨g + 1, Or.inl ⟨h1, t, e, h2, h3, h4⟩⟩
    · exact ⟨g + 1, Or.inr (Or.inl ⟨h1, h2⟩)⟩
    · exact ⟨1, Or.inr (Or.inr h)⟩
/-- a TERM of depth below f, from token a on -/
def px_TM (K : Nat → Int) : Nat → Int → px_N → Int → Prop
  | 0, _, _, _ => False
  | f + 1, a, t, c => (K a.toNat = 11 ∧ K (a + 1).toNat = 2 ∧ K (a + 2).toNat = 12 ∧ ∃ x e, px_TY K f (a + 3) x e ∧ K e.toNat = 13 ∧ ∃ u, px_TM K f (e + 1) u c ∧ t = px_lam (a + 1) x u .leaf) ∨ (K a.toNat = 2 ∧ ∃ r, px_AR K (px_TM K f) (a + 1) .leaf r c ∧ t = px_app a r .leaf)
/-- an item from token a on: con (3), met (4) with NAME and type, or eq (5) with two TERMs -/
def px_IT (K : Nat → Int) (a : Int) (q : (Int × Int × qx_T) × (px_N × px_N)) (c : Int) : Prop := ((K a.toNat = 3 ∨ K a.toNat = 4) ∧ K (a + 1).toNat = 2 ∧ K (a + 2).toNat = 12 ∧ ∃ x e, px_TY K 21 (a + 3) x e ∧ K e.toNat = 14 ∧ c = e + 1 ∧ q = ((K a.toNat, a + 1, x), .leaf, .leaf)) ∨ (K a.toNat = 5 ∧ ∃ t e u g, px_TM K 21 (a + 1) t e ∧ K e.toNat = 15 ∧ px_TM K 21 (e + 1) u g ∧ K g.toNat = 14 ∧ c = g + 1 ∧ q = ((5, a, qx_o), t, u))
theorem px_TY_fun {K : Nat → Int} : ∀ {f : Nat} {a : Int} {x y : qx_T} {c e : Int}, px_TY K f a x c → px_TY K f a y e → x = y ∧ c = e
  | 0, _, _, _, _, _, h, _ => h.elim
  | f + 1, a, x, y, c, e, h, k => by
    obtain ⟨y1, e1, h1, h2⟩ := h
    obtain ⟨y2, e2, k1, k2⟩ := k
    have hh : y1 = y2 ∧ e1 = e2 := by
      rcases h1 with ⟨q1, q2, q3⟩ | ⟨q1, q2, q3⟩ | ⟨q1, g, q2, q3, q4⟩ <;> rcases k1 with ⟨p1, p2, p3⟩ | ⟨p1, p2, p3⟩ | ⟨p1, g', p2, p3, p4⟩
      · exact ⟨by rw [q2, p2], by omega⟩
      · omega
      · omega
      · omega
      · exact ⟨by rw [q2, p2], by omega⟩
      · omega
      · omega
      · omega
      · obtain ⟨z1, z2⟩ := px_TY_fun q2 p2
        exact ⟨z1, by omega⟩
    obtain ⟨rfl, rfl⟩ := hh
    rcases h2 with ⟨q1, w, q2, q3⟩ | ⟨q1, q2, q3⟩ <;> rcases k2 with ⟨p1, w', p2, p3⟩ | ⟨p1, p2, p3⟩
    · obtain ⟨z1, z2⟩ := px_TY_fun q2 p2
      exact ⟨by rw [q3, p3, z1], z2⟩
    · exact absurd q1 p1
    · exact absurd p1 q1
    · exact ⟨by rw [q2, p2], by omega⟩
theorem px_ARg_fun {K : Nat → Int} {T : Int → px_N → Int → Prop} (hT : ∀ a t e t' e', T a t e → T a t' e' → t = t' ∧ e = e') : ∀ {g g' : Nat} {a : Int} {r x y : px_N} {c e : Int}, px_ARg K T g a r x c → px_ARg K T g' a r y e → x = y ∧ c = e
  | 0, _, _, _, _, _, _, _, h, _ => h.elim
  | _ + 1, 0, _, _, _, _, _, _, _, k => k.elim
  | g + 1, g' + 1, a, r, x, y, c, e, h, k => by
    rcases h with ⟨q1, t, m, q2, q3, q4⟩ | ⟨q1, q2⟩ | ⟨q1, q2, q3, q4⟩ <;> rcases k with ⟨p1, t', m', p2, p3, p4⟩ | ⟨p1, p2⟩ | ⟨p1, p2, p3, p4⟩
    · obtain ⟨rfl, rfl⟩ := hT _ _ _ _ _ q2 p2
      exact px_ARg_fun hT q4 p4
    · omega
    · omega
    · omega
    · exact px_ARg_fun hT q2 p2
    · omega
    · omega
    · omega
    · exact ⟨by rw [q3, p3], by omega⟩
theorem px_TM_fun {K : Nat → Int} : ∀ {f : Nat} {a : Int} {x y : px_N} {c e : Int}, px_TM K f a x c → px_TM K f a y e → x = y ∧ c = e
  | 0, _, _, _, _, _, h, _ => h.elim
  | f + 1, a, x, y, c, e, h, k => by
    rcases h with ⟨q1, q2, q3, z, m, q4, q5, u, q6, q7⟩ | ⟨q1, r, ⟨g, q2⟩, q3⟩ <;> rcases k with ⟨p1, p2, p3, z', m', p4, p5, u', p6, p7⟩ | ⟨p1, r', ⟨g', p2⟩, p3⟩
    · obtain ⟨rfl, rfl⟩ := px_TY_fun q4 p4
      obtain ⟨rfl, rfl⟩ := px_TM_fun q6 p6
      exact ⟨by rw [q7, p7], rfl⟩
    · omega
    · omega
    · obtain ⟨rfl, rfl⟩ := px_ARg_fun (T := px_TM K f) (fun _ _ _ _ _ h1 h2 => px_TM_fun h1 h2) q2 p2
      exact ⟨by rw [q3, p3], rfl⟩
end
