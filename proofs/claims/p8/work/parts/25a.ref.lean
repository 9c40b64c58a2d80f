/-! ===== the reference: a node under names, on its way ===== -/
/-- N: not below a LAM or a head -/
def rf_Ng (N : Int → rf_T → Prop) (A : rf_N) : Prop := (∀ v T, N v T → v < 0) ∧ (rf_k3 A ∨ ∀ v T, ¬ N v T)
def rf_CL (s : sx_S) (g : rf_Gh) (N : Int → rf_T → Prop) (A : rf_N) (y : rf_Y) (x : rf_T) (W : List Nat) (p : Nat) (i b : Int) : Prop := (rf_no s A i ∧ (rf_gt (rf_Hn (s.1 66 58) s N) rf_P A).1 x ∧ rf_Ng N A ∧ rf_NM s N y b) ∧ ((rf_am (rf_di s g.2.2) A).1 ∧ rf_ij (rf_fo (rf_Wd s g.2.2) A).1 y) ∧ (rf_wh A).1 ≤ 200 ∧ rf_wy s g W (rf_oc A).1 (rf_wh A).1 p
/-- a row of ARGs -/
def rf_CR (s : sx_S) (g : rf_Gh) (N : Int → rf_T → Prop) (f : rf_N) (y : rf_Y) (x : rf_T) (W : List Nat) (p : Nat) (i b : Int) : Prop := (rf_no s f i ∧ (rf_gt (rf_Hn (s.1 66 58) s N) rf_P f).2 x .leaf ∧ (∀ v T, ¬ N v T) ∧ rf_NM s N y b) ∧ ((rf_am (rf_di s g.2.2) f).2 ∧ rf_ij (rf_fo (rf_Wd s g.2.2) f).2 y) ∧ (rf_wh f).2 ≤ 200 ∧ rf_wy s g W (rf_oc f).2 (rf_wh f).2 p
def rf_Ub (s : sx_S) (g : rf_Gh) : Prop := ∀ r q, 0 ≤ r → r < s.1 66 61 → g.2.2 r q → (q : Int) < rf_aa s r
theorem rf_MI.ub {nb ib : Int} {s : sx_S} {g : rf_Gh} (h : rf_MI nb ib s g) : rf_Ub s g := fun r q r0 r1 hq => (h.1 r r0 r1).2.1 q hq
theorem rf_EG.ub {s : sx_S} {g g' : rf_Gh} (h : rf_EG s g g') (hu : rf_Ub s g) : ∀ r q, 0 ≤ r → r < s.1 66 61 → g'.2.2 r q → g.2.2 r q ∧ (q : Int) < rf_aa s r := fun r q r0 r1 hq => ⟨(h r r0 r1).2 q hq, hu r q r0 r1 ((h r r0 r1).2 q hq)⟩
theorem rf_CL_up {s t : sx_S} {g g' : rf_Gh} (h : rf_EX (s.1 66 71) (s.1 66 58) s t) (hn : s.1 66 71 ≤ t.1 66 71) (hi : s.1 66 58 ≤ t.1 66 58) (hg : rf_EG s g g') (hu : rf_Ub s g) {N : Int → rf_T → Prop} {A : rf_N} {y : rf_Y} {x : rf_T} {W : List Nat} {p : Nat} {i b : Int} (k : rf_CL s g N A y x W p i b) : rf_CL t g' N A y x W p i b := by
  obtain ⟨⟨a1, a2, a3, a4⟩, ⟨b1, b2⟩, c, d⟩ := k
  have hbn := (rf_bn_gn a1).1 _ a2
  have hU := hg.ub hu
  exact ⟨⟨h.no a1, (rf_gn_up h hi (fun _ _ z => z) a1).1 _ a2, a3, rf_NM_up h hn hi a4⟩, ⟨(rf_di_up h hU).1 hbn b1, rf_ij_le ((rf_Wd_up h hU).1 hbn) b2⟩, c, rf_wy_up h hg d⟩
theorem rf_CR_up {s t : sx_S} {g g' : rf_Gh} (h : rf_EX (s.1 66 71) (s.1 66 58) s t) (hn : s.1 66 71 ≤ t.1 66 71) (hi : s.1 66 58 ≤ t.1 66 58) (hg : rf_EG s g g') (hu : rf_Ub s g) {N : Int → rf_T → Prop} {A : rf_N} {y : rf_Y} {x : rf_T} {W : List Nat} {p : Nat} {i b : Int} (k : rf_CR s g N A y x W p i b) : rf_CR t g' N A y x W p i b := by
  obtain ⟨⟨a1, a2, a3, a4⟩, ⟨b1, b2⟩, c, d⟩ := k
  have hbn := (rf_bn_gn a1).2 _ _ a2
  have hU := hg.ub hu
  exact ⟨⟨h.no a1, (rf_gn_up h hi (fun _ _ z => z) a1).2 _ _ a2, a3, rf_NM_up h hn hi a4⟩, ⟨(rf_di_up h hU).2 hbn b1, rf_ij_le ((rf_Wd_up h hU).2 hbn) b2⟩, c, rf_wy_up h hg d⟩
/-- a node of a typed tree -/
theorem rf_CL_node {s : sx_S} {g : rf_Gh} {N : Int → rf_T → Prop} {A : rf_N} {y : rf_Y} {x : rf_T} {W : List Nat} {p : Nat} {i b : Int} (k : rf_CL s g N A y x W p i b) : ∃ (j : Nat) (kk : Int × Int) (u : Unit) (f n : rf_N), A = .inner j kk u f n ∧ i = (j : Int) ∧ i.toNat = j ∧ (j : Int) < s.1 66 50 ∧ s.2.1 100 j = kk.1 ∧ s.2.1 101 j = kk.2 ∧ rf_no s f (s.2.1 102 j) ∧ rf_no s n (s.2.1 103 j) ∧ ((kk.1 = 0 ∧ ∃ C D, x = rf_a C D ∧ rf_vb (s.1 66 58) s kk.2 C ∧ (rf_gt (rf_Hn (s.1 66 58) s N) rf_P f).1 D) ∨ (kk.1 ≠ 0 ∧ x = .leaf ∧ ∃ w, rf_Hn (s.1 66 58) s N j kk.1 kk.2 w ∧ (rf_gt (rf_Hn (s.1 66 58) s N) rf_P f).2 w .leaf)) := by
  cases A with
  | leaf => exact k.1.2.1.elim
  | inner j kk u f n =>
    obtain ⟨⟨⟨⟨m0, m1⟩, ⟨m2, m3⟩, m4, m5⟩, a2, _⟩, _⟩ := k
    refine ⟨j, kk, u, f, n, rfl, m0, by omega, m1, m2, m3, m4, m5, ?_⟩
    rcases a2 with ⟨e, C, D, q1, q2, q3⟩ | ⟨e, w, q1, q2, q3⟩
    · exact Or.inl ⟨e, C, D, q1, rf_Hn_02 q2 (Or.inl e), q3⟩
    · have q4 : x = .leaf := q3
      rw [q4] at q2
      exact Or.inr ⟨e, q4, w, q1, q2⟩
theorem rf_fo_typed {s : sx_S} {g : rf_Gh} (hu : rf_Ub s g) {N : Int → rf_T → Prop} {A : rf_N} {i : Int} {x : rf_T} (a1 : rf_no s A i) (a2 : (rf_gt (rf_Hn (s.1 66 58) s N) rf_P A).1 x) {y : rf_Y} {b : Int} (a4 : rf_NM s N y b) : ∀ w, (rf_fo (rf_Wd s g.2.2) A).1 w → ∃ T, rf_vb (s.1 66 58) s (rf_look y w) T := by
  intro w hw
  have hbn := (rf_bn_gn a1).1 _ a2
  have h2 := (rf_am_mono (p := rf_bn s) (p' := fun j r => ∀ v, rf_Wd s g.2.2 j r v → ∃ q : Nat, (q : Int) < rf_aa s r ∧ v = rf_rv1 s j q) (n := A) (fun j _ r hb v ⟨q, q1, q2⟩ => ⟨q, hu r q hb.2.1.1 hb.2.1.2 q1, q2⟩)).1 hbn
  obtain ⟨T, hT⟩ := rf_fo_ty.1 _ a2 h2 w hw
  exact ⟨T, a4.2.2.1 w T hT⟩
/-- under a LAM -/
theorem rf_CL_lam {s t : sx_S} {g : rf_Gh} (hu : rf_Ub s g) {N : Int → rf_T → Prop} {j : Nat} {kk : Int × Int} {u : Unit} {f n : rf_N} {y : rf_Y} {C D : rf_T} {W : List Nat} {p : Nat} {i b z v : Int} (k : rf_CL s g N (.inner j kk u f n) y (rf_a C D) W p i b) (k0 : kk.1 = 0) (h : rf_EX (s.1 66 71) (s.1 66 58) s t) (hn : s.1 66 71 ≤ t.1 66 71) (hi : s.1 66 58 < t.1 66 58) (hv : v = s.1 66 58) (r58 : 0 ≤ s.1 66 58) (hty : t.2.1 106 v.toNat = s.2.1 106 kk.2.toNat) (hz : 0 ≤ z ∧ z < t.1 66 71) (hm : rf_nm t z kk.2 v b) : rf_CL t g N f (rf_one kk.2 v y) D W (p - 1) (s.2.1 102 j) z := by
  have kc := k
  obtain ⟨⟨a1, a2, a3, a4⟩, ⟨b1, b2⟩, c, d⟩ := k
  have hft := rf_fo_typed hu a1 a2 a4
  obtain ⟨⟨m0, m1⟩, ⟨m2, m3⟩, m4, m5⟩ := a1
  rcases a2 with ⟨e, C', D', q1, q2, q3⟩ | ⟨e, _⟩
  · cases q1
    have q2v := rf_Hn_02 q2 (Or.inl e)
    have vt : rf_vb (t.1 66 58) t kk.2 C := rf_vb_le (by omega) ((h.vb (Int.le_refl _) _ _).mpr q2v)
    have vv : rf_vb (t.1 66 58) t v C := by
      refine ⟨⟨by omega, by omega⟩, ?_⟩
      rw [hty]
      exact (h.is _ _).mpr q2v.2
    have hwh := rf_wh_0 (j := j) (u := u) (f := f) (x := n) k0
    have hbn := (rf_bn_gn m4).1 _ q3
    have hU : ∀ r q, 0 ≤ r → r < s.1 66 61 → g.2.2 r q → g.2.2 r q ∧ (q : Int) < rf_aa s r := fun r q r0 r1 hq => ⟨hq, hu r q r0 r1 hq⟩
    have hN0 : ∀ v T, ¬ N v T := a3.2.elim (fun z => by have : kk.1 = 3 := z; omega) id
    refine ⟨⟨h.no m4, (rf_gn_up h (by omega) (fun _ _ z => z) m4).1 _ q3, ⟨a3.1, Or.inr hN0⟩, rf_NM_one a3.1 hz hm vt vv (rf_NM_up h hn (by omega) a4)⟩, ⟨(rf_di_up h hU).1 hbn (b1.2.1 k0), ?_⟩, by omega, rf_wy_le (fun z hz => Or.inr (Or.inl ⟨k0, hz⟩)) (by omega) (rf_wy_up h (rf_EG_refl s g) d)⟩
    refine rf_ij_one (F := (rf_fo (rf_Wd s g.2.2) (.inner j kk u f n)).1) (fun w hw hne => Or.inr (Or.inl ⟨k0, hne, (rf_Wd_up h hU).1 hbn w hw⟩)) (fun w hw e => ?_) b2
    obtain ⟨T, hT⟩ := hft w hw
    have := hT.1.2
    omega
  · exact absurd k0 e
/-- the ARGs of a head -/
theorem rf_CL_app {s : sx_S} {g : rf_Gh} {N : Int → rf_T → Prop} {j : Nat} {kk : Int × Int} {u : Unit} {f n : rf_N} {y : rf_Y} {x w : rf_T} {W : List Nat} {p : Nat} {i b : Int} (k : rf_CL s g N (.inner j kk u f n) y x W p i b) (k0 : kk.1 = 1 ∨ kk.1 = 2) (hw : (rf_gt (rf_Hn (s.1 66 58) s N) rf_P f).2 w .leaf) (hp : 1 ≤ p) : rf_CR s g N f y w W (p - 1) (s.2.1 102 j) b := by
  obtain ⟨⟨⟨⟨m0, m1⟩, ⟨m2, m3⟩, m4, m5⟩, a2, a3, a4⟩, ⟨b1, b2⟩, c, d⟩ := k
  have hwh := rf_wh_2 (j := j) (u := u) (f := f) (x := n) k0
  have hN0 : ∀ v T, ¬ N v T := a3.2.elim (fun z => by have : kk.1 = 3 := z; omega) id
  exact ⟨⟨m4, hw, hN0, a4⟩, ⟨b1.2.2 k0, rf_ij_le (fun v hv => Or.inr (Or.inr ⟨k0, Or.inr hv⟩)) b2⟩, by omega, rf_wy_le (fun z hz => Or.inr (Or.inr ⟨k0, hz⟩)) (by omega) d⟩
/-- the first of a row, and the others -/
theorem rf_CR_cons {s : sx_S} {g : rf_Gh} {N : Int → rf_T → Prop} {f : rf_N} {y : rf_Y} {x : rf_T} {W : List Nat} {p : Nat} {i b : Int} (k : rf_CR s g N f y x W p i b) (hi : i ≠ -1) : ∃ C D, x = rf_a C D ∧ rf_CL s g N f y C W p i b ∧ ∃ n, rf_CR s g N n y D W p (s.2.1 103 i.toNat) b ∧ (0 ≤ i ∧ i < s.1 66 50) ∧ ∃ (j : Nat) (kk : Int × Int) (u : Unit) (ff : rf_N), f = .inner j kk u ff n := by
  cases f with
  | leaf => exact absurd k.1.1 hi
  | inner j kk u f n =>
    obtain ⟨⟨a1, a2, a3, a4⟩, ⟨b1, b2⟩, c, d⟩ := k
    have a1c := a1
    obtain ⟨⟨m0, m1⟩, ⟨m2, m3⟩, m4, m5⟩ := a1
    obtain ⟨C, D, q1, q2, q3⟩ := a2
    have hle := rf_wh_le (j := j) (k := kk) (u := u) (f := f) (x := n)
    have ej : i.toNat = j := by omega
    refine ⟨C, D, q1, ⟨⟨a1c, q2, ⟨fun v T z => absurd z (a3 v T), Or.inr a3⟩, a4⟩, ⟨b1.1, rf_ij_le (fun v hv => Or.inl hv) b2⟩, by omega, rf_wy_le (fun z hz => Or.inl hz) (by omega) d⟩, n, ⟨⟨by rw [ej]; exact m5, q3, a3, a4⟩, ⟨b1.2, rf_ij_le (fun v hv => Or.inr hv) b2⟩, by omega, rf_wy_le (fun z hz => Or.inr hz) (by omega) d⟩, by omega, j, kk, u, f, rfl⟩
theorem rf_CR_nil {s : sx_S} {g : rf_Gh} {N : Int → rf_T → Prop} {f : rf_N} {y : rf_Y} {x : rf_T} {W : List Nat} {p : Nat} {i b : Int} (k : rf_CR s g N f y x W p i b) : (i = -1 ↔ f = .leaf) ∧ (f = .leaf ↔ x = .leaf) := by
  obtain ⟨⟨a1, a2, _⟩, _⟩ := k
  cases f with
  | leaf =>
    have e1 : i = -1 := a1
    have e2 : x = .leaf := a2
    exact ⟨⟨fun _ => rfl, fun _ => e1⟩, ⟨fun _ => e2, fun _ => rfl⟩⟩
  | inner j kk u f n =>
    obtain ⟨C, D, q1, _⟩ := a2
    have m0 := a1.1.1
    refine ⟨⟨fun e => by omega, fun e => by cases e⟩, ⟨fun e => by (cases e), fun e => ?_⟩⟩
    rw [q1] at e
    cases e
/-- a solved unknown is entered -/
theorem rf_CL_en {nb ib : Int} {s t : sx_S} {g : rf_Gh} (hM : rf_MI nb ib s g) (hib : ib ≤ s.1 66 58) (hp : rf_ph s g ≤ 1150) {N : Int → rf_T → Prop} {j : Nat} {kk : Int × Int} {u : Unit} {f n : rf_N} {y : rf_Y} {x : rf_T} {W : List Nat} {p : Nat} {i b z : Int} (k : rf_CL s g N (.inner j kk u f n) y x W p i b) (k3 : kk.1 = 3) (hs : s.2.1 111 kk.2.toNat ≠ 0) (h : rf_EX (s.1 66 71) (s.1 66 58) s t) (hn : s.1 66 71 ≤ t.1 66 71) (hi : t.1 66 58 = s.1 66 58) (hz : rf_bs t (rf_bh (g.2.1 kk.2) (rf_row (rf_fm s kk.2) (rf_vo s y i) (rf_aa s kk.2).toNat)) z) : x = .leaf ∧ 5 ≤ p ∧ rf_CL t g (rf_Nx s kk.2) (g.1 kk.2) (rf_bh (g.2.1 kk.2) (rf_row (rf_fm s kk.2) (rf_vo s y i) (rf_aa s kk.2).toNat)) .leaf (kk.2.toNat :: W) (p - 5) (s.2.1 113 kk.2.toNat) z := by
  obtain ⟨⟨a1, a2, a3, a4⟩, ⟨b1, b2⟩, c, d⟩ := k
  obtain ⟨⟨m0, m1⟩, ⟨m2, m3⟩, m4, m5⟩ := a1
  have ej : i.toNat = j := by omega
  rcases a2 with ⟨e, _⟩ | ⟨e, w, q1, q2, q3⟩
  · omega
  · obtain ⟨hw, hr, hb, hty⟩ := rf_Hn_3 q1 k3
    have hMX := hM.1 kk.2 hr.1 hr.2
    have hSV := hMX.2.2.2 hs
    have hwh : (rf_wh (.inner j kk u f n)).1 = 5 := if_pos k3
    have hpp := rf_wy_pos d hp
    have hwi := rf_wy_in d hM hp (x := kk.2) (Or.inl ⟨k3, rfl⟩) (by omega) hr.1 hr.2 hs
    have hNM := rf_NM_enter (n := i) (x := kk.2) (u := w) (k := kk.1) hSV hib (Int.le_refl _) (by rw [ej]; exact q1) k3 a4 h hn hi hz
    obtain ⟨⟨s1, s2, s3, s4⟩, _, ⟨_, _, s5, _⟩, _⟩ := hSV
    have hNg : rf_Ng (rf_Nx s kk.2) (g.1 kk.2) := ⟨rf_Nx_neg, s5.imp (fun z => z.2) (fun z v T ⟨w1, q, w2, w3, _⟩ => by have := z q w2; omega)⟩
    have hbn := (rf_bn_gn s1).1 _ s2
    have hU : ∀ r q, 0 ≤ r → r < s.1 66 61 → g.2.2 r q → g.2.2 r q ∧ (q : Int) < rf_aa s r := fun r q r0 r1 hq => ⟨hq, hM.ub r q r0 r1 hq⟩
    refine ⟨q3, by omega, ⟨h.no s1, (rf_gn_up (rf_EX_le h (Int.le_refl _) hib) (by omega) (fun _ _ z => z) s1).1 _ s2, hNg, hNM⟩, ⟨(rf_di_up h hU).1 hbn s4, rf_ij_le ((rf_Wd_up h hU).1 hbn) (rf_ij_in hMX hs (by rw [ej]; exact b1.1 k3) (rf_ij_le (fun v hv => Or.inl ⟨k3, ?_⟩) b2))⟩, s3, rf_wy_up h (rf_EG_refl s g) hwi⟩
    rw [ej] at hv
    exact hv
