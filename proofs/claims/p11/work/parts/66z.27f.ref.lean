/-! ===== the reference: write, what it is made of ===== -/
theorem rf_fo_typed2 {s : sx_S} {g : rf_Gh} (hu : rf_Ub s g) {N : Int → rf_T → Prop} {A : rf_N} {i : Int} {x z : rf_T} (a1 : rf_no s A i) (a2 : (rf_gt (rf_Hn (s.1 66 58) s N) rf_P A).2 x z) {y : rf_Y} {b : Int} (a4 : rf_NM s N y b) : ∀ w, (rf_fo (rf_Wd s g.2.2) A).2 w → ∃ T, rf_vb (s.1 66 58) s (rf_look y w) T := by
  intro w hw
  have hbn := (rf_bn_gn a1).2 _ _ a2
  have h2 := (rf_am_mono (p := rf_bn s) (p' := fun j r => ∀ v, rf_Wd s g.2.2 j r v → ∃ q : Nat, (q : Int) < rf_aa s r ∧ v = rf_rv1 s j q) (n := A) (fun j _ r hb v ⟨q, q1, q2⟩ => ⟨q, hu r q hb.2.1.1 hb.2.1.2 q1, q2⟩)).2 hbn
  obtain ⟨T, hT⟩ := rf_fo_ty.2 _ _ a2 h2 w hw
  exact ⟨T, a4.2.2.1 w T hT⟩
theorem rf_DI_ag {s t : sx_S} {y : rf_Y} {F : Int → Prop} {dp : Int} (hF : ∀ w, F w → ∃ T, rf_vb (s.1 66 58) s (rf_look y w) T) (ha : rf_ag 107 107 (s.1 66 58) s t) (k : rf_DI s y F dp) : rf_DI t y F dp := by
  have e : ∀ v, F v → t.2.1 107 (rf_look y v).toNat = s.2.1 107 (rf_look y v).toNat := fun v hv => by
    obtain ⟨T, hT⟩ := hF v hv
    have := hT.1
    exact ha 107 _ (by omega) (by omega) (by omega)
  intro v hv
  rw [e v hv]
  refine ⟨(k v hv).1, fun w hw q => (k v hv).2 w hw ?_⟩
  rw [e w hw] at q
  exact q
/-- so much of the budget is left -/
def rf_WB (s u : sx_S) (q q' : Nat) : Prop := (cx_I u ∧ rf_WF s u ∧ rf_OD u) ∧ (u.1 66 71 + (q' : Int) ≤ s.1 66 71 + (q : Int) ∧ u.1 66 58 = s.1 66 58) ∧ q' ≤ q
def rf_W4 (aM : Bool) (s u : sx_S) (g : rf_Gh) (x : rf_T) (dp : Int) (q : Nat) (N : Int → rf_T → Prop) (A : rf_N) (y : rf_Y) (W : List Nat) (p q' : Nat) (x4 x5 : Int) : Prop := rf_WB s u q q' ∧ rf_CL u g N A y x W p x4 x5 ∧ rf_okw aM A p q' ∧ rf_DI u y (rf_fo (rf_Wd u g.2.2) A).1 dp
def rf_okr (aM : Bool) (f : rf_N) (p q : Nat) : Prop := ((∀ z, ¬ (rf_oc f).2 z) ∧ (rf_wh f).2 ≤ q) ∨ (aM = true ∧ p + 100 ≤ q)
def rf_WR (aM : Bool) (s u : sx_S) (g : rf_Gh) (dp : Int) (q : Nat) (N : Int → rf_T → Prop) (f : rf_N) (y : rf_Y) (w : rf_T) (W : List Nat) (p q' : Nat) (x5 x6 : Int) : Prop := rf_WB s u q q' ∧ rf_CR u g N f y w W p x6 x5 ∧ rf_okr aM f p (q' - 1) ∧ rf_DI u y (rf_fo (rf_Wd u g.2.2) f).2 dp ∧ 1 ≤ q'
/-- a variable is made; its depth is set -/
def rf_V1 (u t : sx_S) (x4 v : Int) : Prop := cx_I t ∧ cx_F [(66, 66), (106, 106)] u t ∧ v = u.1 66 58 ∧ t.1 66 58 = u.1 66 58 + 1 ∧ rf_f [58] u t ∧ rf_ag 106 106 (u.1 66 58) u t ∧ t.2.1 106 v.toNat = u.2.1 106 (u.2.1 101 x4.toNat).toNat
def rf_V2 (u t : sx_S) (v dp : Int) : Prop := cx_I t ∧ cx_F [(66, 66), (107, 107), (122, 122)] u t ∧ rf_f [86] u t ∧ ∀ j : Nat, t.2.1 107 j = if j = v.toNat then dp else u.2.1 107 j
theorem rf_WB_put {s u t : sx_S} {q q' : Nat} (h : rf_WB s u q q') (c1 : cx_I t) (c2 : cx_F [(66, 66), (122, 122)] u t) (c3 : rf_f [86] u t) : rf_WB s t q q' := by
  obtain ⟨⟨h1, h2, h3⟩, ⟨h4, h5⟩, h6⟩ := h
  obtain ⟨e1, e2, e3, e4, e5⟩ := rf_WF_put c2 c3
  exact ⟨⟨c1, rf_WF_trans e1 h2, e2 h3⟩, ⟨by omega, by omega⟩, h6⟩
theorem rf_CL_put {u t : sx_S} {g : rf_Gh} (hu : rf_Ub u g) {N : Int → rf_T → Prop} {A : rf_N} {y : rf_Y} {x : rf_T} {W : List Nat} {p : Nat} {i b dp : Int} (hF : rf_WF u t) (e71 : t.1 66 71 = u.1 66 71) (e58 : t.1 66 58 = u.1 66 58) (k : rf_CL u g N A y x W p i b) (kD : rf_DI u y (rf_fo (rf_Wd u g.2.2) A).1 dp) : rf_CL t g N A y x W p i b ∧ rf_DI t y (rf_fo (rf_Wd t g.2.2) A).1 dp := by
  obtain ⟨hE, hN⟩ := rf_WF_EX hF
  refine ⟨rf_CL_up hE (by omega) (by omega) (rf_EG_refl u g) hu k, ?_⟩
  refine rf_DI_le (fun v hv => ?_) (rf_DI_ag (t := t) (rf_fo_typed hu k.1.1 k.1.2.1 k.1.2.2.2) (fun a j h1 h2 h3 => hF.2.1.2.2.1 a j (by omega) h2 h3) kD)
  exact (rf_Wd_up hE (fun r q r0 r1 hq => ⟨hq, hu r q r0 r1 hq⟩)).1 ((rf_bn_gn k.1.1).1 _ k.1.2.1) v hv
theorem rf_CR_put {u t : sx_S} {g : rf_Gh} (hu : rf_Ub u g) {N : Int → rf_T → Prop} {f : rf_N} {y : rf_Y} {w : rf_T} {W : List Nat} {p : Nat} {i b dp : Int} (hF : rf_WF u t) (e71 : t.1 66 71 = u.1 66 71) (e58 : t.1 66 58 = u.1 66 58) (k : rf_CR u g N f y w W p i b) (kD : rf_DI u y (rf_fo (rf_Wd u g.2.2) f).2 dp) : rf_CR t g N f y w W p i b ∧ rf_DI t y (rf_fo (rf_Wd t g.2.2) f).2 dp := by
  obtain ⟨hE, hN⟩ := rf_WF_EX hF
  refine ⟨rf_CR_up hE (by omega) (by omega) (rf_EG_refl u g) hu k, ?_⟩
  refine rf_DI_le (fun v hv => ?_) (rf_DI_ag (t := t) (rf_fo_typed2 hu k.1.1 k.1.2.1 k.1.2.2.2) (fun a j h1 h2 h3 => hF.2.1.2.2.1 a j (by omega) h2 h3) kD)
  exact (rf_Wd_up hE (fun r q r0 r1 hq => ⟨hq, hu r q r0 r1 hq⟩)).2 ((rf_bn_gn k.1.1).2 _ _ k.1.2.1) v hv
/-- names and variables are taken back -/
theorem rf_WF_back {u t : sx_S} {a b : Int} (h : rf_WF u t) (ha : a = u.1 66 71) (hb : b = u.1 66 58) : rf_WF u (sx_uf (sx_uf t.1 66 71 a) 66 58 b, t.2) := by
  obtain ⟨o1, o2, o3⟩ := rf_back_f (a := a) (b := b) (t := t)
  obtain ⟨⟨a1, a2, a3⟩, ⟨a4, a5, a6, a7⟩, a8, a9, a10⟩ := h
  exact ⟨⟨cx_F_uf rfl (cx_F_uf rfl a1), rf_f_uf rfl (rf_f_uf rfl a2), (o1 50 (by decide) (by decide)).trans a3⟩, ⟨a4, a5, a6, a7⟩, Int.le_of_eq (o3.trans hb).symm, Int.le_of_eq (o2.trans ha).symm, a10⟩
/-- into a solved unknown -/
theorem rf_DI_en {nb ib : Int} {s t : sx_S} {g : rf_Gh} (hM : rf_MI nb ib s g) {y : rf_Y} {i dp : Int} {j : Nat} {kk : Int × Int} {uu : Unit} {f n : rf_N} (ej : i.toNat = j) (k3 : kk.1 = 3) (hr : 0 ≤ kk.2 ∧ kk.2 < s.1 66 61) (hs : s.2.1 111 kk.2.toNat ≠ 0) (hd : rf_di s g.2.2 j kk.2) (hE : rf_EX (s.1 66 71) (s.1 66 58) s t) (hib : ib ≤ s.1 66 58) (e107 : t.2.1 107 = s.2.1 107) (kD : rf_DI s y (rf_fo (rf_Wd s g.2.2) (.inner j kk uu f n)).1 dp) : rf_DI t (rf_bh (g.2.1 kk.2) (rf_row (rf_fm s kk.2) (rf_vo s y i) (rf_aa s kk.2).toNat)) (rf_fo (rf_Wd t g.2.2) (g.1 kk.2)).1 dp := by
  have hMX := hM.1 kk.2 hr.1 hr.2
  have hSV := hMX.2.2.2 hs
  have hfo : ∀ v, (rf_fo (rf_Wd t g.2.2) (g.1 kk.2)).1 v → (rf_fo (rf_Wd s g.2.2) (g.1 kk.2)).1 v := (rf_Wd_up hE (fun r q r0 r1 hq => ⟨hq, hM.ub r q r0 r1 hq⟩)).1 ((rf_bn_gn hSV.1.1).1 _ hSV.1.2.1)
  intro v hv
  obtain ⟨q, q1, q2, q3⟩ := rf_en_look (y := y) (n := i) hMX hs (hfo v hv)
  rw [ej] at q3
  rw [q3, e107]
  have hq := kD (rf_rv1 s j q) (Or.inl ⟨k3, q, q1, rfl⟩)
  refine ⟨hq.1, fun w hw e => ?_⟩
  obtain ⟨r, r1, r2, r3⟩ := rf_en_look (y := y) (n := i) hMX hs (hfo w hw)
  rw [ej] at r3
  rw [r3] at e
  have e2 := hd q r q1 r1 (hq.2 _ (Or.inl ⟨k3, r, r1, rfl⟩) e)
  subst e2
  exact hSV.2.2.2.2 v w (hfo v hv) (hfo w hw) (by rw [q2, r2])
/-- a mark of what was seen -/
theorem rf_WF_seen {s : sx_S} {n : Nat} {v : Int} : rf_WF s (s.1, sx_ua s.2.1 119 n v, s.2.2) := by
  have o : ∀ p, p ≠ 119 → sx_ua s.2.1 119 n v p = s.2.1 p := fun p hp => sx_ua_ne hp
  refine ⟨⟨cx_F_ua rfl (cx_F_refl _ _), rf_f_refl _ _, rfl⟩, ⟨fun p j h1 h2 _ => congrFun (o p (by omega)) j, fun p j h1 h2 _ => congrFun (o p (by omega)) j, fun p j h1 h2 _ => congrFun (o p (by omega)) j, fun p j h1 h2 _ => congrFun (o p (by omega)) j⟩, Int.le_refl _, Int.le_refl _, fun j hj => ?_⟩
  show sx_ua s.2.1 119 n v 118 j ≠ -1
  rw [o 118 (by decide)]
  exact hj
theorem rf_WF_name {s t : sx_S} (hF : cx_F [(66, 66), (115, 117)] s t) (hf : rf_f [71] s t) (ha : rf_ag 115 117 (s.1 66 71) s t) (hn : s.1 66 71 ≤ t.1 66 71) : rf_WF s t ∧ (rf_OD s → rf_OD t) := by
  have e50 := hf 50 rfl
  have e58 := hf 58 rfl
  refine ⟨⟨⟨cx_F_step hF rfl (cx_F_refl _ _), rf_f_step hf rfl (rf_f_refl _ _), e50⟩, ⟨rf_ag_F hF rfl (rf_ag_refl _ _ _ _), rf_ag_F hF rfl (rf_ag_refl _ _ _ _), rf_ag_F hF rfl (rf_ag_refl _ _ _ _), ha⟩, by omega, hn, fun j hj => by rw [(hF.same 118 rfl).2]; exact hj⟩, fun h => rf_OD_same h (hf 61 rfl) (hf 83 rfl) (hf 79 rfl) (fun p hp => ?_)⟩
  rcases hp with rfl | rfl | rfl | rfl <;> exact (hF.same _ rfl).2
theorem rf_WF_V {u u1 u2 : sx_S} {x4 v dp : Int} (h1 : rf_V1 u u1 x4 v) (h2 : rf_V2 u1 u2 v dp) (r58 : 0 ≤ u.1 66 58) : rf_WF u u2 ∧ (rf_OD u → rf_OD u2) ∧ u2.1 66 71 = u.1 66 71 ∧ u2.1 66 58 = u.1 66 58 + 1 ∧ (∀ j : Nat, u2.2.1 107 j = if j = v.toNat then dp else u.2.1 107 j) ∧ u2.2.1 106 v.toNat = u.2.1 106 (u.2.1 101 x4.toNat).toNat ∧ u2.2.1 101 = u.2.1 101 ∧ u2.2.1 102 = u.2.1 102 := by
  obtain ⟨a1, a2, a3, a4, a5, a6, a7⟩ := h1
  obtain ⟨b1, b2, b3, b4⟩ := h2
  have e50 := a5 50 rfl
  have f50 := b3 50 rfl
  have e71 := a5 71 rfl
  have f71 := b3 71 rfl
  have f58 := b3 58 rfl
  have e107 : u1.2.1 107 = u.2.1 107 := (a2.same 107 rfl).2
  have hF : cx_F [(66, 66), (106, 107), (122, 122)] u u2 := cx_F_step b2 rfl (cx_F_step a2 rfl (cx_F_refl _ _))
  have hf : rf_f [58, 86] u u2 := rf_f_step b3 rfl (rf_f_step a5 rfl (rf_f_refl _ _))
  refine ⟨⟨⟨cx_F_step hF rfl (cx_F_refl _ _), rf_f_step hf rfl (rf_f_refl _ _), by omega⟩, ⟨rf_ag_F hF rfl (rf_ag_refl _ _ _ _), rf_ag_F hF rfl (rf_ag_refl _ _ _ _), fun p j p1 p2 hj => ?_, rf_ag_F hF rfl (rf_ag_refl _ _ _ _)⟩, by omega, by omega, fun j hj => by rw [(hF.same 118 rfl).2]; exact hj⟩, fun h => rf_OD_same h (hf 61 rfl) (hf 83 rfl) (hf 79 rfl) (fun p hp => ?_), by omega, by omega, fun j => by rw [b4 j, e107], by rw [(b2.same 106 rfl).2]; exact a7, by rw [(hF.same 101 rfl).2], by rw [(hF.same 102 rfl).2]⟩
  · have : p = 106 ∨ p = 107 := by omega
    rcases this with rfl | rfl
    · rw [(b2.same 106 rfl).2]
      exact a6 106 j (by omega) (by omega) hj
    · rw [b4 j, if_neg (by omega), e107]
  · rcases hp with rfl | rfl | rfl | rfl <;> exact (hF.same _ rfl).2
theorem rf_okw_row {aM : Bool} {j : Nat} {kk : Int × Int} {uu : Unit} {f n : rf_N} {p q : Nat} (k0 : kk.1 = 1 ∨ kk.1 = 2) (hp : 1 ≤ p) (h : rf_okw aM (.inner j kk uu f n) p q) : rf_okr aM f (p - 1) (q - 1) := by
  rcases h with ⟨h1, h2⟩ | ⟨h1, h2⟩
  · refine Or.inl ⟨fun z hz => h1 z (Or.inr (Or.inr ⟨k0, hz⟩)), ?_⟩
    rw [rf_wh_2 k0] at h2
    omega
  · exact Or.inr ⟨h1, by omega⟩
theorem rf_okw_lam {aM : Bool} {j : Nat} {kk : Int × Int} {uu : Unit} {f n : rf_N} {p q : Nat} (k0 : kk.1 = 0) (hp : 1 ≤ p) (h : rf_okw aM (.inner j kk uu f n) p q) : rf_okw aM f (p - 1) (q - 1) := by
  rcases h with ⟨h1, h2⟩ | ⟨h1, h2⟩
  · refine Or.inl ⟨fun z hz => h1 z (Or.inr (Or.inl ⟨k0, hz⟩)), ?_⟩
    rw [rf_wh_0 k0] at h2
    omega
  · exact Or.inr ⟨h1, by omega⟩
theorem rf_okw_pos {aM : Bool} {j : Nat} {kk : Int × Int} {uu : Unit} {f n : rf_N} {p q : Nat} (h : rf_okw aM (.inner j kk uu f n) p q) : 1 ≤ q := by
  have := rf_wh_pos (j := j) (k := kk) (u := uu) (f := f) (x := n)
  rcases h with ⟨h1, h2⟩ | ⟨h1, h2⟩ <;> omega
