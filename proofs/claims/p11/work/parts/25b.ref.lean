/-! ===== the reference: what small steps leave as it was ===== -/
def rf_FS (s t : sx_S) : Prop := (cx_F [(66, 66), (100, 106), (108, 117), (124, 124)] s t ∧ rf_f [50, 56, 58, 61, 64, 70, 71] s t) ∧ (rf_ag 100 104 (s.1 66 50) s t ∧ rf_ag 105 105 (s.1 66 56) s t ∧ rf_ag 106 106 (s.1 66 58) s t) ∧ (s.1 66 50 ≤ t.1 66 50 ∧ s.1 66 56 ≤ t.1 66 56 ∧ s.1 66 58 ≤ t.1 66 58)
theorem rf_FS_refl (s : sx_S) : rf_FS s s := ⟨⟨cx_F_refl _ _, rf_f_refl _ _⟩, ⟨rf_ag_refl _ _ _ _, rf_ag_refl _ _ _ _, rf_ag_refl _ _ _ _⟩, Int.le_refl _, Int.le_refl _, Int.le_refl _⟩
theorem rf_FS_trans {s t u : sx_S} (h2 : rf_FS t u) (h1 : rf_FS s t) : rf_FS s u := by
  obtain ⟨⟨a1, a2⟩, ⟨a3, a4, a5⟩, a6, a7, a8⟩ := h1
  obtain ⟨⟨b1, b2⟩, ⟨b3, b4, b5⟩, b6, b7, b8⟩ := h2
  exact ⟨⟨cx_F_step b1 rfl a1, rf_f_step b2 rfl a2⟩, ⟨rf_ag_trans b3 a6 a3, rf_ag_trans b4 a7 a4, rf_ag_trans b5 a8 a5⟩, by omega, by omega, by omega⟩
theorem rf_FS_of {V : List (Nat × Nat)} {X : List Nat} {s t : sx_S} (hF : cx_F V s t) (hV : cx_le V [(66, 66), (100, 106), (108, 117), (124, 124)] = true) (hf : rf_f X s t) (hX : X.all ([50, 56, 58, 61, 64, 70, 71] : List Nat).contains = true) (a : rf_ag 100 104 (s.1 66 50) s t) (b : rf_ag 105 105 (s.1 66 56) s t) (c : rf_ag 106 106 (s.1 66 58) s t) (d : s.1 66 50 ≤ t.1 66 50 ∧ s.1 66 56 ≤ t.1 66 56 ∧ s.1 66 58 ≤ t.1 66 58) : rf_FS s t := ⟨⟨cx_F_step hF hV (cx_F_refl _ _), rf_f_step hf hX (rf_f_refl _ _)⟩, ⟨a, b, c⟩, d⟩
/-- names are made -/
theorem rf_EX_name {ib : Int} {s t : sx_S} (hF : cx_F [(66, 66), (115, 117)] s t) (hf : rf_f [71] s t) (ha : rf_ag 115 117 (s.1 66 71) s t) : rf_EX (s.1 66 71) ib s t ∧ rf_FS s t := by
  have e50 := hf 50 rfl
  have e56 := hf 56 rfl
  have e58 := hf 58 rfl
  have e61 := hf 61 rfl
  have e64 := hf 64 rfl
  have e70 := hf 70 rfl
  refine ⟨⟨⟨⟨hf 9 rfl, (hF.same 72 rfl).2, (hF.same 73 rfl).2, (hF.same 96 rfl).2, hf 42 rfl⟩, by omega, by omega, by omega, by omega, by omega⟩, fun j => ⟨fun _ => ⟨by rw [(hF.same 100 rfl).2], by rw [(hF.same 101 rfl).2], by rw [(hF.same 102 rfl).2], by rw [(hF.same 103 rfl).2], by rw [(hF.same 104 rfl).2]⟩, fun _ => by rw [(hF.same 105 rfl).2], fun _ => by rw [(hF.same 106 rfl).2], fun _ => ⟨by rw [(hF.same 108 rfl).2], by rw [(hF.same 109 rfl).2], fun _ => ⟨by rw [(hF.same 111 rfl).2], by rw [(hF.same 112 rfl).2], by rw [(hF.same 113 rfl).2], by rw [(hF.same 114 rfl).2]⟩⟩, fun _ => by rw [(hF.same 110 rfl).2], fun hj => ⟨ha 115 j (by omega) (by omega) hj, ha 116 j (by omega) (by omega) hj, ha 117 j (by omega) (by omega) hj⟩⟩⟩, rf_FS_of hF rfl hf rfl (rf_ag_F hF rfl (rf_ag_refl _ _ _ _)) (rf_ag_F hF rfl (rf_ag_refl _ _ _ _)) (rf_ag_F hF rfl (rf_ag_refl _ _ _ _)) (by omega)⟩
/-- a variable is made -/
theorem rf_EX_var {nb : Int} {s t : sx_S} (hF : cx_F [(66, 66), (106, 106)] s t) (hf : rf_f [58] s t) (ha : rf_ag 106 106 (s.1 66 58) s t) (hi : s.1 66 58 ≤ t.1 66 58) : rf_EX nb (s.1 66 58) s t ∧ rf_FS s t := by
  have e50 := hf 50 rfl
  have e56 := hf 56 rfl
  have e61 := hf 61 rfl
  have e64 := hf 64 rfl
  have e70 := hf 70 rfl
  refine ⟨⟨⟨⟨hf 9 rfl, (hF.same 72 rfl).2, (hF.same 73 rfl).2, (hF.same 96 rfl).2, hf 42 rfl⟩, by omega, by omega, by omega, by omega, by omega⟩, fun j => ⟨fun _ => ⟨by rw [(hF.same 100 rfl).2], by rw [(hF.same 101 rfl).2], by rw [(hF.same 102 rfl).2], by rw [(hF.same 103 rfl).2], by rw [(hF.same 104 rfl).2]⟩, fun _ => by rw [(hF.same 105 rfl).2], fun hj => ha 106 j (by omega) (by omega) hj, fun _ => ⟨by rw [(hF.same 108 rfl).2], by rw [(hF.same 109 rfl).2], fun _ => ⟨by rw [(hF.same 111 rfl).2], by rw [(hF.same 112 rfl).2], by rw [(hF.same 113 rfl).2], by rw [(hF.same 114 rfl).2]⟩⟩, fun _ => by rw [(hF.same 110 rfl).2], fun _ => ⟨by rw [(hF.same 115 rfl).2], by rw [(hF.same 116 rfl).2], by rw [(hF.same 117 rfl).2]⟩⟩⟩, rf_FS_of hF rfl hf rfl (rf_ag_F hF rfl (rf_ag_refl _ _ _ _)) (rf_ag_F hF rfl (rf_ag_refl _ _ _ _)) ha (by omega)⟩
/-- places of variables are filled -/
theorem rf_EX_row {nb ib : Int} {s t : sx_S} (hF : cx_F [(66, 66), (105, 105)] s t) (hf : rf_f [56] s t) (ha : rf_ag 105 105 (s.1 66 56) s t) (hi : s.1 66 56 ≤ t.1 66 56) : rf_EX nb ib s t ∧ rf_FS s t := by
  have e50 := hf 50 rfl
  have e58 := hf 58 rfl
  have e61 := hf 61 rfl
  have e64 := hf 64 rfl
  have e70 := hf 70 rfl
  refine ⟨⟨⟨⟨hf 9 rfl, (hF.same 72 rfl).2, (hF.same 73 rfl).2, (hF.same 96 rfl).2, hf 42 rfl⟩, by omega, by omega, by omega, by omega, by omega⟩, fun j => ⟨fun _ => ⟨by rw [(hF.same 100 rfl).2], by rw [(hF.same 101 rfl).2], by rw [(hF.same 102 rfl).2], by rw [(hF.same 103 rfl).2], by rw [(hF.same 104 rfl).2]⟩, fun hj => ha 105 j (by omega) (by omega) hj, fun _ => by rw [(hF.same 106 rfl).2], fun _ => ⟨by rw [(hF.same 108 rfl).2], by rw [(hF.same 109 rfl).2], fun _ => ⟨by rw [(hF.same 111 rfl).2], by rw [(hF.same 112 rfl).2], by rw [(hF.same 113 rfl).2], by rw [(hF.same 114 rfl).2]⟩⟩, fun _ => by rw [(hF.same 110 rfl).2], fun _ => ⟨by rw [(hF.same 115 rfl).2], by rw [(hF.same 116 rfl).2], by rw [(hF.same 117 rfl).2]⟩⟩⟩, rf_FS_of hF rfl hf rfl (rf_ag_F hF rfl (rf_ag_refl _ _ _ _)) ha (rf_ag_F hF rfl (rf_ag_refl _ _ _ _)) (by omega)⟩
/-- a mark is set -/
theorem rf_EX_mark {nb ib : Int} {s : sx_S} {n : Nat} {v : Int} : rf_EX nb ib s (s.1, sx_ua s.2.1 124 n v, s.2.2) ∧ rf_FS s (s.1, sx_ua s.2.1 124 n v, s.2.2) := by
  have o : ∀ p, p ≠ 124 → sx_ua s.2.1 124 n v p = s.2.1 p := fun p hp => sx_ua_ne hp
  refine ⟨⟨⟨⟨rfl, o 72 (by decide), o 73 (by decide), o 96 (by decide), rfl⟩, Int.le_refl _, Int.le_refl _, Int.le_refl _, Int.le_refl _, Int.le_refl _⟩, fun j => ⟨fun _ => ⟨congrFun (o 100 (by decide)) j, congrFun (o 101 (by decide)) j, congrFun (o 102 (by decide)) j, congrFun (o 103 (by decide)) j, congrFun (o 104 (by decide)) j⟩, fun _ => congrFun (o 105 (by decide)) j, fun _ => congrFun (o 106 (by decide)) j, fun _ => ⟨congrFun (o 108 (by decide)) j, congrFun (o 109 (by decide)) j, fun _ => ⟨congrFun (o 111 (by decide)) j, congrFun (o 112 (by decide)) j, congrFun (o 113 (by decide)) j, congrFun (o 114 (by decide)) j⟩⟩, fun _ => congrFun (o 110 (by decide)) j, fun _ => ⟨congrFun (o 115 (by decide)) j, congrFun (o 116 (by decide)) j, congrFun (o 117 (by decide)) j⟩⟩⟩, ⟨cx_F_ua rfl (cx_F_refl _ _), rf_f_refl _ _⟩, ⟨fun p j hp hq _ => congrFun (o p (by omega)) j, fun p j hp hq _ => congrFun (o p (by omega)) j, fun p j hp hq _ => congrFun (o p (by omega)) j⟩, Int.le_refl _, Int.le_refl _, Int.le_refl _⟩
/-- names and variables are taken back -/
theorem rf_EX_back {nb ib a b : Int} {t : sx_S} : rf_EX nb ib t (sx_uf (sx_uf t.1 66 71 a) 66 58 b, t.2) := by
  have o : ∀ k, k ≠ 71 → k ≠ 58 → sx_uf (sx_uf t.1 66 71 a) 66 58 b 66 k = t.1 66 k := fun k h1 h2 => by
    rw [sx_uf_if, if_neg (fun c => h2 c.2), sx_uf_if, if_neg (fun c => h1 c.2)]
  refine ⟨⟨⟨o 9 (by decide) (by decide), rfl, rfl, rfl, o 42 (by decide) (by decide)⟩, Int.le_of_eq (o 50 (by decide) (by decide)).symm, Int.le_of_eq (o 56 (by decide) (by decide)).symm, Int.le_of_eq (o 61 (by decide) (by decide)).symm, Int.le_of_eq (o 64 (by decide) (by decide)).symm, Int.le_of_eq (o 70 (by decide) (by decide)).symm⟩, fun j => ⟨fun _ => ⟨rfl, rfl, rfl, rfl, rfl⟩, fun _ => rfl, fun _ => rfl, fun _ => ⟨rfl, rfl, fun _ => ⟨rfl, rfl, rfl, rfl⟩⟩, fun _ => rfl, fun _ => ⟨rfl, rfl, rfl⟩⟩⟩
theorem rf_back_f {a b : Int} {t : sx_S} : (∀ k, k ≠ 71 → k ≠ 58 → sx_uf (sx_uf t.1 66 71 a) 66 58 b 66 k = t.1 66 k) ∧ sx_uf (sx_uf t.1 66 71 a) 66 58 b 66 71 = a ∧ sx_uf (sx_uf t.1 66 71 a) 66 58 b 66 58 = b := by
  refine ⟨fun k h1 h2 => ?_, ?_, ?_⟩
  · rw [sx_uf_if, if_neg (fun c => h2 c.2), sx_uf_if, if_neg (fun c => h1 c.2)]
  · rw [sx_uf_if, if_neg (fun c => absurd c.2 (by decide)), sx_uf_if, if_pos ⟨rfl, rfl⟩]
  · rw [sx_uf_if, if_pos ⟨rfl, rfl⟩]
theorem rf_FS_back {a b : Int} {s t : sx_S} (h : rf_FS s t) (hb : s.1 66 58 ≤ b) : rf_FS s (sx_uf (sx_uf t.1 66 71 a) 66 58 b, t.2) := by
  obtain ⟨⟨a1, a2⟩, ⟨a3, a4, a5⟩, a6, a7, a8⟩ := h
  obtain ⟨o1, o2, o3⟩ := rf_back_f (a := a) (b := b) (t := t)
  refine ⟨⟨cx_F_uf rfl (cx_F_uf rfl a1), rf_f_uf rfl (rf_f_uf rfl a2)⟩, ⟨a3, a4, a5⟩, ?_, ?_, ?_⟩
  · show _ ≤ sx_uf (sx_uf t.1 66 71 a) 66 58 b 66 50
    rw [o1 50 (by decide) (by decide)]
    exact a6
  · show _ ≤ sx_uf (sx_uf t.1 66 71 a) 66 58 b 66 56
    rw [o1 56 (by decide) (by decide)]
    exact a7
  · show _ ≤ sx_uf (sx_uf t.1 66 71 a) 66 58 b 66 58
    rw [o3]
    exact hb
theorem rf_FS_KA {s u t : sx_S} {Vf Tf : Nat → Int} {kf : Nat → Nat} {n : Nat} {m row J b : Int} (h : rf_KW s u Vf Tf kf n) (hA : rf_AS u t m row J b) : rf_FS s t := by
  obtain ⟨⟨b1, b2, b3⟩, ⟨c1, c2, c3, c4⟩, ⟨d1, d2, d3, d4, d5⟩, _⟩ := h
  obtain ⟨a1, a2, a3, _⟩ := hA
  have e50 := a3 50 rfl
  have e56 := a3 56 rfl
  have e58 := a3 58 rfl
  have f58 := b3 58 rfl
  refine rf_FS_trans (t := u) (rf_FS_of a2 rfl a3 rfl (rf_ag_F a2 rfl (rf_ag_refl _ _ _ _)) (rf_ag_F a2 rfl (rf_ag_refl _ _ _ _)) (rf_ag_F a2 rfl (rf_ag_refl _ _ _ _)) (by omega)) (rf_FS_of b2 rfl b3 rfl d1 d2 (rf_ag_F b2 rfl (rf_ag_refl _ _ _ _)) (by omega))
theorem rf_FS_AS {u t : sx_S} {m row J b : Int} (hA : rf_AS u t m row J b) : rf_FS u t := by
  obtain ⟨a1, a2, a3, _⟩ := hA
  have e50 := a3 50 rfl
  have e56 := a3 56 rfl
  have e58 := a3 58 rfl
  exact rf_FS_of a2 rfl a3 rfl (rf_ag_F a2 rfl (rf_ag_refl _ _ _ _)) (rf_ag_F a2 rfl (rf_ag_refl _ _ _ _)) (rf_ag_F a2 rfl (rf_ag_refl _ _ _ _)) (by omega)
/-- nothing was solved -/
def rf_NC (s t : sx_S) : Prop := t.1 66 61 = s.1 66 61 ∧ ∀ j : Nat, (j : Int) < s.1 66 61 → t.2.1 111 j = s.2.1 111 j
theorem rf_NC_qu {nb ib : Int} {s t : sx_S} (h : rf_EX nb ib s t) (k : rf_NC s t) : rf_qu t = rf_qu s := rf_qu_same k.1 (fun j hj => ⟨k.2 j hj, ((h.2 j).2.2.2.1 hj).1⟩)
theorem rf_NC_ph {nb ib : Int} {s t : sx_S} {g : rf_Gh} (h : rf_EX nb ib s t) (k : rf_NC s t) : rf_ph t g = rf_ph s g := rf_ph_same k.1 (fun j hj => ⟨k.2 j hj, ((h.2 j).2.2.2.1 hj).1⟩) (fun _ _ _ => rfl)
theorem rf_NC_MI {nb ib nb' ib' : Int} {s t : sx_S} {g : rf_Gh} (h : rf_EX nb ib s t) (k : rf_NC s t) (hn : nb ≤ nb') (hi : ib ≤ ib') (hM : rf_MI nb ib s g) : rf_MI nb' ib' t g := rf_MI_up h hn hi k.1 k.2 hM
theorem rf_NC_F {V : List (Nat × Nat)} {X : List Nat} {s t : sx_S} (hF : cx_F V s t) (hV : cx_outb V 111 = true) (hf : rf_f X s t) (hX : X.contains 61 = false) : rf_NC s t := ⟨hf 61 hX, fun j _ => by rw [(hF.same 111 hV).2]⟩
/-- what solving an equation, or a part of it, leaves -/
def rf_PU (s t : sx_S) (g : rf_Gh) (z : Int) (p : Nat) : Prop := (0 ≤ z ∧ z ≤ 1) ∧ cx_I t ∧ rf_FS s t ∧ (z ≠ 0 → ∃ g' : rf_Gh, rf_MI (t.1 66 71) (t.1 66 58) t g' ∧ rf_EX (s.1 66 71) (s.1 66 58) s t ∧ rf_EG s g g' ∧ (rf_ph t g' ≤ 1150 ∧ rf_RM 0 t ∧ rf_qu t ≤ rf_qu s) ∧ (s.1 66 71 ≤ t.1 66 71 ∧ t.1 66 71 ≤ s.1 66 71 + ((max 1 (rf_qu s - rf_qu t) * p : Nat) : Int)) ∧ (s.1 66 58 ≤ t.1 66 58 ∧ t.1 66 58 ≤ s.1 66 58 + ((max 1 (rf_qu s - rf_qu t) * p : Nat) : Int)) ∧ (t.1 66 70 = s.1 66 70 → rf_NC s t) ∧ (t.1 66 70 ≠ s.1 66 70 → rf_qu t < rf_qu s))
/-- the variables of an open unknown, as they are called -/
theorem rf_act_ok {s t : sx_S} {g : rf_Gh} {N : Int → rf_T → Prop} {A : rf_N} {y : rf_Y} {x : rf_T} {W : List Nat} {p : Nat} {i b row m : Int} (hM : rf_MI (s.1 66 71) (s.1 66 58) s g) (k : rf_CL s g N A y x W p i b) (h3 : s.2.1 100 i.toNat = 3) (em : m = s.2.1 101 i.toNat) (ho : s.2.1 111 m.toNat = 0) (a2 : cx_F [(66, 66), (105, 105)] s t) (a3 : rf_f [56] s t) (a4 : row = s.1 66 56) (a5 : t.1 66 56 = s.1 66 56 + s.2.1 108 m.toNat) (a6 : rf_ag 105 105 (s.1 66 56) s t) (a7 : ∀ q : Nat, (q : Int) < s.2.1 108 m.toNat → t.2.1 105 (row + (q : Int)).toNat = rf_vo s y i q) (r108 : 0 ≤ s.2.1 108 m.toNat) (r56 : 0 ≤ s.1 66 56) : (0 ≤ m ∧ m < s.1 66 61) ∧ (0 ≤ row ∧ row + rf_aa t m ≤ t.1 66 56) ∧ (∀ q : Nat, (q : Int) < rf_aa t m → ∃ T, rf_py t m q T ∧ rf_vb (t.1 66 58) t (t.2.1 105 (row + (q : Int)).toNat) T) ∧ (∀ p q : Nat, (p : Int) < rf_aa t m → (q : Int) < rf_aa t m → t.2.1 105 (row + (p : Int)).toNat = t.2.1 105 (row + (q : Int)).toNat → p = q) := by
  obtain ⟨hE, _⟩ := rf_EX_row (nb := s.1 66 71) (ib := s.1 66 58) a2 a3 a6 (by omega)
  obtain ⟨j, kk, u, f, n, eA, e1, e2, e3, e4, e5, e6, e7, e8⟩ := rf_CL_node k
  rw [e2, e4] at h3
  rw [e2, e5] at em
  subst em
  rcases e8 with ⟨c, _⟩ | ⟨c, hx, w, hw, _⟩
  · omega
  · obtain ⟨h1, h2, h4, h5⟩ := rf_Hn_3 hw h3
    subst eA
    obtain ⟨⟨_, _, _, kN⟩, ⟨kd, kj⟩, _⟩ := k
    have eaa : rf_aa t kk.2 = rf_aa s kk.2 := by
      unfold rf_aa
      rw [(a2.same 108 rfl).2]
    have hU := (hM.1 kk.2 h2.1 h2.2).2.2.1 ho
    have hvo : ∀ q, rf_vo s y i q = rf_look y (rf_rv1 s j q) := fun q => by
      unfold rf_vo rf_rv1
      rw [e2]
    have e58 := a3 58 rfl
    refine ⟨h2, ⟨by omega, by rw [eaa]; unfold rf_aa; omega⟩, fun q hq => ?_, fun p q hp hq e => ?_⟩
    · rw [eaa] at hq
      obtain ⟨T, t1, t2⟩ := h5 q hq
      rw [a7 q hq, hvo]
      refine ⟨T, hE.pt h2.1 h2.2 t1, ?_⟩
      rw [e58]
      exact (hE.vb (Int.le_refl _) _ _).mpr (kN.2.2.1 _ T t2)
    · rw [eaa] at hp hq
      rw [a7 p hp, a7 q hq, hvo, hvo] at e
      exact kd.1 h3 p q (hU p hp) (hU q hq) (kj _ _ (Or.inl ⟨h3, p, hU p hp, rfl⟩) (Or.inl ⟨h3, q, hU q hq, rfl⟩) e)
