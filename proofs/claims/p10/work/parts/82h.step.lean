/-! ===== the reference: write, step by step ===== -/
section
variable {Ω : Type}
def wz_X : rf_N → rf_N
  | .leaf => .leaf
  | .inner _ _ _ _ x => x
/-- a node is to be written; a row of ARGs -/
def we_4 (E : we_E Ω) (Z : we_A Ω) (P : Int → Prop) (u : sx_S) (A : rf_N) (y : rf_Y) (dp : Int) : Prop := vr_t u (we_AR E) A ∧ we_J E Z P u (we_V E u A y dp) (vr_1 A) ((we_W E (we_V E u A y dp)).1 dp)
def we_5 (E : we_E Ω) (Z : we_A Ω) (P : Int → Prop) (u : sx_S) (f : rf_N) (y : rf_Y) (dp : Int) : Prop := vr_r u (we_AR E) f ∧ we_J E Z P u (we_X E u f y dp) (vr_c f) ((we_W E (we_X E u f y dp)).2 dp)
def we_c7 (E : we_E Ω) (x7 : Int) (w : we_A Ω) : we_A Ω := if x7 = 0 then w else we_b E [41] w
/-- an ARG: behind its blank; behind its bracket; written; behind it -/
def we_6a (E : we_E Ω) (Z : we_A Ω) (P : Int → Prop) (u : sx_S) (f : rf_N) (y : rf_Y) (dp : Int) : Prop := vr_r u (we_AR E) f ∧ we_J E Z P u (we_X E u f y dp) (vr_c f) (fun w => (we_W E (we_X E u (wz_X f) y dp)).2 dp (we_gv E.1.1 (we_V E u f y dp) (we_W E (we_V E u f y dp)).1 dp w))
def we_6b (E : we_E Ω) (Z : we_A Ω) (P : Int → Prop) (u : sx_S) (f : rf_N) (y : rf_Y) (dp x7 : Int) : Prop := vr_r u (we_AR E) f ∧ we_J E Z P u (we_X E u f y dp) (vr_c f) (fun w => (we_W E (we_X E u (wz_X f) y dp)).2 dp (we_c7 E x7 ((we_W E (we_V E u f y dp)).1 dp w)))
def we_6c (E : we_E Ω) (Z : we_A Ω) (P : Int → Prop) (u : sx_S) (f : rf_N) (y : rf_Y) (dp x7 : Int) : Prop := vr_r u (we_AR E) f ∧ we_J E Z P u (we_X E u (wz_X f) y dp) (vr_c (wz_X f)) (fun w => (we_W E (we_X E u (wz_X f) y dp)).2 dp (we_c7 E x7 w))
def we_6d (E : we_E Ω) (Z : we_A Ω) (P : Int → Prop) (u : sx_S) (f : rf_N) (y : rf_Y) (dp : Int) : Prop := vr_r u (we_AR E) f ∧ we_J E Z P u (we_X E u (wz_X f) y dp) (vr_c (wz_X f)) ((we_W E (we_X E u (wz_X f) y dp)).2 dp)
theorem we_4_full {E : we_E Ω} (hL : we_L E) {Z : we_A Ω} {P : Int → Prop} {u : sx_S} {g : rf_Gh} {A : rf_N} {y : rf_Y} {dp : Int} (hI : cx_I u) (hG : we_G E u g) (hn : wz_nn (vr_1 A)) (h89 : u.1 66 89 = 0) (h86 : 4000 < u.1 66 86) (h : we_4 E Z P u A y dp) : we_Z E Z P u := we_J_full hL (we_V_ok hI hG h.1 hn y dp) (we_V_on hG h.1 y dp) (fun w P' hS hM => ⟨(hL trivial).2.2.1 _ _ _ hS h86, (hM trivial).1 h89⟩) h.2
theorem we_V_oc {E : we_E Ω} (hg : ∀ m, vx_on (we_th E m)) {s : sx_S} {j : Nat} {q : Int × Int} {u : Unit} {f x : rf_N} {y : rf_Y} {dp z : Int} (k3 : q.1 = 3) : wz_oc z (we_V E s (.inner j q u f x) y dp) ↔ wz_oc z (we_th E q.2) := by
  unfold we_V
  rw [vr_V_call hg k3, wz_oc_re, wz_oc_re]
theorem we_mt_3 {j : Nat} {q : Int × Int} {u : Unit} {f x : rf_N} (k3 : q.1 = 3) : vx_mt q.2 (vr_1 (.inner j q u f x)) := by
  rw [vr_1_in]
  exact Or.inl ⟨k3, rfl⟩
theorem we_4_skip {E : we_E Ω} (hL : we_L E) {Z : we_A Ω} {P : Int → Prop} {s : sx_S} {g : rf_Gh} {j : Nat} {q : Int × Int} {u : Unit} {f x : rf_N} {y : rf_Y} {dp : Int} (hI : cx_I s) (hG : we_G E s g) (hn : wz_nn (vr_1 (.inner j q u f x))) (k3 : q.1 = 3) (hr : 0 ≤ q.2 ∧ q.2 < s.1 66 61) (h89 : s.1 66 89 ≠ 0) (h119 : s.2.1 119 q.2.toNat ≠ 0) (h : we_4 E Z P s (.inner j q u f x) y dp) : we_Z E Z P s := we_J_full hL (we_V_ok hI hG h.1 hn y dp) (we_V_on hG h.1 y dp) (fun w P' _ hM => by
  obtain ⟨b1, b2, b3⟩ := (hM trivial).2 h89
  refine ⟨b1, fun z hz => ?_⟩
  rcases b3 q.2 hr.1 hr.2 h119 with c | c
  · have := (b2 q.2 c).1 q.2 (we_mt_3 k3)
    exact absurd this (Nat.lt_irrefl _)
  · exact c z ((we_V_oc (fun m => ((hG trivial).1.2.1 m).1) k3).mp hz)) h.2
/-- into a solved unknown -/
theorem we_4_en {E : we_E Ω} {nb ib : Int} {Z : we_A Ω} {P : Int → Prop} {s t : sx_S} {g : rf_Gh} {j : Nat} {q : Int × Int} {u : Unit} {f x : rf_N} {y : rf_Y} {dp i : Int} (hI : cx_I s) (hM : rf_MI nb ib s g) (hG : we_G E s g) (hn : wz_nn (vr_1 (.inner j q u f x))) (k3 : q.1 = 3) (hr : 0 ≤ q.2 ∧ q.2 < s.1 66 61) (hs : s.2.1 111 q.2.toNat ≠ 0) (hi : i.toNat = j) (hE : rf_EX nb ib s t) (ef : ∀ k, k = 58 ∨ k = 61 ∨ k = 79 ∨ k = 86 ∨ k = 89 → t.1 66 k = s.1 66 k) (ea : ∀ p, p = 107 ∨ p = 108 ∨ p = 118 ∨ p = 120 ∨ p = 121 ∨ p = 122 → t.2.1 p = s.2.1 p) (e119 : ∀ p : Nat, p ≠ q.2.toNat → t.2.1 119 p = s.2.1 119 p) (h : we_4 E Z P s (.inner j q u f x) y dp) : we_4 E Z P t (g.1 q.2) (rf_bh (g.2.1 q.2) (rf_row (rf_fm s q.2) (rf_vo s y i) (rf_aa s q.2).toNat)) dp := by
  obtain ⟨h1, w, P', ⟨h2, h3⟩, h4, h5⟩ := h
  have hg : ∀ m, vx_on (we_th E m) := fun m => ((hG trivial).1.2.1 m).1
  have eV := we_V_en (E := E) (t := t) (u := u) (f := f) (n := x) (y := y) (dp := dp) hI hM hG k3 (we_t_3 h1 k3) hs hi (ef 58 (by omega)) (fun p _ => by rw [ea 107 (by omega)])
  have hb := (hG trivial).1.1 q.2 hr.1 hr.2 hs
  have hrk := (hG trivial).2.2.2.1
  have e61 := ef 61 (by omega)
  have e86 := ef 86 (by omega)
  have e89 := ef 89 (by omega)
  have hac : ∀ z, wz_oc z (we_th E q.2) → z ∈ Z.1.map Prod.fst := fun z hz => by
    rw [← h4, we_W_acc (we_V_ok hI hG h1 hn y dp) (we_V_on hG h1 y dp), wz_go_mem]
    exact Or.inr ((we_V_oc hg k3).mpr hz)
  refine ⟨(vr_t_up hE (fun _ _ => rfl)).1 hb, ?_⟩
  rw [eV]
  refine ⟨w, fun m => P' m ∨ m = q.2, ⟨we_N_same (ef 79 (by omega)) e61 (fun p hp => ea p (by omega)) h2, ?_⟩, h4, fun _ => ?_⟩
  · unfold we_Sp
    rw [e86, ea 122 (by omega)]
    exact h3
  · obtain ⟨a, b⟩ := h5 trivial
    rw [e61, e89]
    refine ⟨a, fun c => ?_⟩
    obtain ⟨b1, b2, b3⟩ := b c
    refine ⟨b1, fun m hm => ?_, fun m m0 m1 hs' => ?_⟩
    · rcases hm with hm | hm
      · refine ⟨fun z hz => ?_, (b2 m hm).2⟩
        have r1 := (b2 m hm).1 q.2 (we_mt_3 k3)
        have r2 := hrk q.2 z hr.1 hr.2 hs hz
        omega
      · rw [hm]
        exact ⟨fun z hz => hrk q.2 z hr.1 hr.2 hs hz, Or.inr hac⟩
    · by_cases c2 : m = q.2
      · exact Or.inl (Or.inr c2)
      · rw [e119 m.toNat (by omega)] at hs'
        exact (b3 m m0 m1 hs').imp Or.inl id
/-- into a \ -/
theorem we_4_lam {E : we_E Ω} (hL : we_L E) {Z : we_A Ω} {P : Int → Prop} {s t : sx_S} {j : Nat} {q : Int × Int} {u : Unit} {f x : rf_N} {y : rf_Y} {dp v nb ib : Int} (h1 : 1 ≤ s.1 66 58) (k0 : q.1 = 0) (hE : rf_EX nb ib s t) (hv : v = s.1 66 58) (h58 : t.1 66 58 = s.1 66 58 + 1) (hd : ∀ j : Nat, (j : Int) < s.1 66 58 + 1 → t.2.1 107 j = if j = v.toNat then dp else s.2.1 107 j) (ef : ∀ k, k = 61 ∨ k = 79 ∨ k = 89 → t.1 66 k = s.1 66 k) (ea : ∀ p, p = 108 ∨ (118 ≤ p ∧ p ≤ 121) → t.2.1 p = s.2.1 p) (hS : ∀ o, we_Sp E s o → we_Sp E t ((92 :: 120 :: (E.1.2.1 dp ++ [46])).foldl (fun o c => E.1.1 c o) o)) (h : we_4 E Z P s (.inner j q u f x) y dp) : we_4 E Z P t f (rf_one q.2 v y) (dp + 1) := by
  obtain ⟨a, b⟩ := h
  have eV := we_V_lam (E := E) (t := t) (j := j) (u := u) (f := f) (x := x) (y := y) k0 h1 hv h58 hd
  rw [eV] at b
  refine ⟨(vr_t_up hE (fun _ _ => rfl)).1 (we_t_0 a k0), we_J_le (fun z hz => ?_) (fun m hm => ?_) (we_J_pt hL ef ea hS (fun w => we_lam 0 0 _ .leaf dp w) b)⟩
  · refine (wz_oc_in (j := 0) (q := (0, 0)) (u := ())).mpr (Or.inl ?_)
    rw [if_neg (by decide)]
    exact hz
  · rw [vr_1_in, vr_f_0 k0]
    exact Or.inr (Or.inl ⟨by omega, hm⟩)
/-- a head is put: then its ARGs -/
theorem we_4_hd {E : we_E Ω} (hL : we_L E) {Z : we_A Ω} {P : Int → Prop} {s t : sx_S} {j : Nat} {q : Int × Int} {u : Unit} {f x : rf_N} {y : rf_Y} {dp nb ib : Int} (h1 : 1 ≤ s.1 66 58) (k0 : q.1 = 1 ∨ q.1 = 2) (hc : q.1 = 1 → 0 ≤ q.2) (hE : rf_EX nb ib s t) (hP : we_PT E s t (if q.1 = 1 then E.1.2.2 q.2 else 120 :: E.1.2.1 (we_D s dp (rf_look y q.2)))) (h : we_4 E Z P s (.inner j q u f x) y dp) : we_5 E Z P t f y dp := by
  obtain ⟨a, b⟩ := h
  rw [we_V_rig k0] at b
  obtain ⟨_, hF, hf, _⟩ := id hP
  have eX := (we_V_eq (E := E) (A := f) (y := y) (dp := dp) (hf 58 rfl) h1 (fun p _ => by rw [(hF.same 107 rfl).2])).2
  refine ⟨(vr_t_up hE (fun _ _ => rfl)).2 (we_t_2 a k0), ?_⟩
  rw [eX]
  refine we_J_le (fun z hz => ?_) (fun m hm => ?_) (we_J_put hL hP (fun w => ?_) b)
  · refine (wz_oc_in (j := 0) (u := ())).mpr (Or.inl ?_)
    rw [if_neg (fun c => ?_)]
    · exact hz
    · obtain ⟨c1, c2⟩ := c
      have c1' : q.1 = 1 := c1
      have c2' : (if q.1 = 2 then we_D s dp (rf_look y q.2) else q.2) < 0 := c2
      rw [if_neg (by omega)] at c2'
      have := hc c1'
      omega
  · rw [vr_1_in, vr_f_2 k0]
    exact Or.inr (Or.inl ⟨by omega, hm⟩)
  · rcases k0 with k0 | k0
    · have e1 : (if q.1 = 2 then we_D s dp (rf_look y q.2) else q.2) = q.2 := if_neg (by omega)
      rw [e1, if_pos k0, k0]
      exact we_con 0 q.2 _ .leaf (hc k0) dp w
    · have e1 : (if q.1 = 2 then we_D s dp (rf_look y q.2) else q.2) = we_D s dp (rf_look y q.2) := if_pos k0
      rw [e1, if_neg (by omega), k0]
      exact we_var 0 _ _ .leaf dp w
theorem we_5_0 {E : we_E Ω} {Z : we_A Ω} {P : Int → Prop} {s : sx_S} {y : rf_Y} {dp : Int} (h : we_5 E Z P s .leaf y dp) : we_Z E Z P s := we_J_Z (fun _ => rfl) h.2
/-- a blank -/
theorem we_5_6 {E : we_E Ω} (hL : we_L E) {Z : we_A Ω} {P : Int → Prop} {s t : sx_S} {g : rf_Gh} {j : Nat} {q : Int × Int} {u : Unit} {f x : rf_N} {y : rf_Y} {dp nb ib : Int} (hG : we_G E s g) (hE : rf_EX nb ib s t) (hP : we_PT E s t [32]) (h : we_5 E Z P s (.inner j q u f x) y dp) : we_6a E Z P t (.inner j q u f x) y dp := by
  obtain ⟨a, b⟩ := h
  obtain ⟨⟨_, GS⟩, _, _, _, _, h1, _⟩ := hG trivial
  have hg : ∀ m, vx_on (we_th E m) := fun m => (GS.1 m).1
  obtain ⟨_, hF, hf, _⟩ := id hP
  have e := fun A => we_V_eq (E := E) (A := A) (y := y) (dp := dp) (hf 58 rfl) h1 (fun p _ => by rw [(hF.same 107 rfl).2])
  refine ⟨(vr_t_up hE (fun _ _ => rfl)).2 a, ?_⟩
  rw [(e _).1, (e _).2, (e _).2]
  refine we_J_put hL hP (fun w => ?_) b
  rw [we_X_c hg]
  exact (we_w_sb (we_V_on hG (we_r_c a).1 y dp) dp w).2
theorem we_gv_if {E : we_E Ω} {v : rf_N} {o : Int → we_A Ω → we_A Ω} {dp : Int} {w : we_A Ω} : (we_bk v → we_gv E.1.1 v o dp w = we_b E [41] (o dp (we_b E [40] w))) ∧ (¬ we_bk v → we_gv E.1.1 v o dp w = o dp w) := ⟨fun c => if_pos c, fun c => if_neg c⟩
/-- a bracket, or none -/
theorem we_6_b {E : we_E Ω} (hL : we_L E) {Z : we_A Ω} {P : Int → Prop} {s t : sx_S} {f : rf_N} {y : rf_Y} {dp x7 nb ib : Int} (h1 : 1 ≤ s.1 66 58) (h7 : x7 ≠ 0 ↔ we_bk (we_V E s f y dp)) (hE : rf_EX nb ib s t) (hP : (x7 = 0 ∧ t = s) ∨ (x7 ≠ 0 ∧ we_PT E s t [40])) (h : we_6a E Z P s f y dp) : we_6b E Z P t f y dp x7 := by
  obtain ⟨a, b⟩ := h
  rcases hP with ⟨c, rfl⟩ | ⟨c, hP⟩
  · refine ⟨a, we_J_k (fun w => ?_) b⟩
    rw [we_gv_if.2 (fun z => h7.mpr z c)]
    unfold we_c7
    rw [if_pos c]
  · obtain ⟨_, hF, hf, _⟩ := id hP
    have e := fun A => we_V_eq (E := E) (A := A) (y := y) (dp := dp) (hf 58 rfl) h1 (fun p _ => by rw [(hF.same 107 rfl).2])
    refine ⟨(vr_t_up hE (fun _ _ => rfl)).2 a, ?_⟩
    rw [(e _).1, (e _).2, (e _).2]
    refine we_J_put hL hP (fun w => ?_) b
    rw [we_gv_if.1 (h7.mp c)]
    unfold we_c7
    rw [if_neg c]
/-- the ARG itself: what the call needs, and what it leaves -/
theorem we_6_w {E : we_E Ω} {Z : we_A Ω} {P : Int → Prop} {s : sx_S} {g : rf_Gh} {j : Nat} {q : Int × Int} {u : Unit} {f x : rf_N} {y : rf_Y} {dp x7 : Int} (hG : we_G E s g) (h : we_6b E Z P s (.inner j q u f x) y dp x7) : ∃ (Z1 : we_A Ω) (P1 : Int → Prop), we_4 E Z1 P1 s (.inner j q u f x) y dp ∧ ∀ (t t' : sx_S) (nb ib : Int), rf_EX nb ib s t' → we_Z E Z1 P1 t → t.1 66 89 = s.1 66 89 → (∀ k, k = 61 ∨ k = 79 ∨ k = 86 ∨ k = 89 → t'.1 66 k = t.1 66 k) → (∀ p, p = 108 ∨ (118 ≤ p ∧ p ≤ 122) → t'.2.1 p = t.2.1 p) → t'.1 66 58 = s.1 66 58 → (∀ p : Nat, (p : Int) < s.1 66 58 → t'.2.1 107 p = s.2.1 107 p) → we_6c E Z P t' (.inner j q u f x) y dp x7 := by
  obtain ⟨a, w, P', ⟨b1, b2⟩, b3, b4⟩ := h
  obtain ⟨⟨_, GS⟩, _, _, _, _, h1, _⟩ := hG trivial
  have hg : ∀ m, vx_on (we_th E m) := fun m => (GS.1 m).1
  obtain ⟨c1, c2⟩ := b4 trivial
  have hoc : ∀ z, wz_oc z (we_X E s (.inner j q u f x) y dp) ↔ wz_oc z (we_V E s (.inner j q u f x) y dp) ∨ wz_oc z (we_X E s x y dp) := fun z => by
    rw [we_X_c hg, wz_sb_oc (we_V_on hG (we_r_c a).1 y dp)]
  have hmt : ∀ m, vx_mt m (vr_c (.inner j q u f x)) ↔ vx_mt m (vr_1 (.inner j q u f x)) ∨ vx_mt m (vr_c x) := fun m => by
    rw [vr_c_in, vr_1_in]
    constructor
    · rintro (h | h | h)
      · exact Or.inl (Or.inl h)
      · exact Or.inl (Or.inr (Or.inl h))
      · exact Or.inr h
    · rintro ((h | h | h) | h)
      · exact Or.inl h
      · exact Or.inr (Or.inl h)
      · exact h.elim
      · exact Or.inr (Or.inr h)
  refine ⟨(we_W E (we_V E s (.inner j q u f x) y dp)).1 dp w, P', ⟨(we_r_c a).1, w, P', ⟨b1, b2⟩, rfl, fun _ => ⟨fun c z hz => c1 c z ((hoc z).mpr (Or.inl hz)), fun c => ⟨(c2 c).1, fun m hm => ⟨fun z hz => ((c2 c).2.1 m hm).1 z ((hmt z).mpr (Or.inl hz)), Or.inl hm⟩, (c2 c).2.2⟩⟩⟩, fun t t' nb ib hE hZ e89 ef ea e58 e107 => ?_⟩
  obtain ⟨⟨z1, z2⟩, z3⟩ := hZ trivial
  have e := fun A => we_V_eq (E := E) (A := A) (y := y) (dp := dp) e58 h1 e107
  refine ⟨(vr_t_up hE (fun _ _ => rfl)).2 a, ?_⟩
  rw [(e _).2]
  refine we_J_same ef ea ⟨(we_W E (we_V E s (.inner j q u f x) y dp)).1 dp w, P', ⟨z1, z2⟩, b3, fun _ => ⟨fun c z hz => ?_, fun c => ⟨(z3 c).1, fun m hm => ⟨fun z hz => ((c2 (by rw [← e89]; exact c)).2.1 m hm).1 z ((hmt z).mpr (Or.inr hz)), ((c2 (by rw [← e89]; exact c)).2.1 m hm).2⟩, (z3 c).2⟩⟩⟩
  have hz' := c1 (by rw [← e89]; exact c) z ((hoc z).mpr (Or.inr hz))
  exact we_W_sub _ _ hz'
/-- the bracket behind it -/
theorem we_6_d {E : we_E Ω} (hL : we_L E) {Z : we_A Ω} {P : Int → Prop} {s t : sx_S} {f : rf_N} {y : rf_Y} {dp x7 nb ib : Int} (h1 : 1 ≤ s.1 66 58) (hE : rf_EX nb ib s t) (hP : (x7 = 0 ∧ t = s) ∨ (x7 ≠ 0 ∧ we_PT E s t [41])) (h : we_6c E Z P s f y dp x7) : we_6d E Z P t f y dp := by
  obtain ⟨a, b⟩ := h
  rcases hP with ⟨c, rfl⟩ | ⟨c, hP⟩
  · refine ⟨a, we_J_k (fun w => ?_) b⟩
    unfold we_c7
    rw [if_pos c]
  · obtain ⟨_, hF, hf, _⟩ := id hP
    have e := fun A => we_V_eq (E := E) (A := A) (y := y) (dp := dp) (hf 58 rfl) h1 (fun p _ => by rw [(hF.same 107 rfl).2])
    refine ⟨(vr_t_up hE (fun _ _ => rfl)).2 a, ?_⟩
    rw [(e _).2]
    refine we_J_put hL hP (fun w => ?_) b
    unfold we_c7
    rw [if_neg c]
theorem we_6_5 {E : we_E Ω} {Z : we_A Ω} {P : Int → Prop} {s : sx_S} {j : Nat} {q : Int × Int} {u : Unit} {f x : rf_N} {y : rf_Y} {dp : Int} (h : we_6d E Z P s (.inner j q u f x) y dp) : we_5 E Z P s x y dp := ⟨(we_r_c h.1).2, h.2⟩
end
