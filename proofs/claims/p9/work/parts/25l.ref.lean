/-! ===== the reference: unify, what it is made of ===== -/
/-- a method with such places, and pairs of numbers that fall -/
theorem sx_loopsW {wr : Bool} {sL : Nat} {sx : Nat → Int32} {d mi n : Nat} {e : mx_En} {R : Int → sx_S → Prop} {stop : sx_Sp} (I : Nat × Nat → Nat → sx_L → sx_S → Prop) (hsL : sL ≤ 3072) (he : mx_pg[mi]? = some e) (h : ∀ m pc ls s, I m pc ls s → sx_wp wr sL sx e (sx_C sL sx (d + 1)) stop (fun pc' ls' s' => ∃ m', Prod.Lex (· < ·) (· < ·) m' m ∧ I m' pc' ls' s') R n pc ls [] s) : ∀ m pc ls s, I m pc ls s → sx_E sL sx (d + 2) mi pc ls [] s R := by
  intro m
  have wf : WellFounded (Prod.Lex (fun a b : Nat => a < b) (fun a b : Nat => a < b)) := (Prod.lex ⟨_, Nat.lt_wfRel.wf⟩ ⟨_, Nat.lt_wfRel.wf⟩).wf
  induction m using wf.induction with
  | _ m ih =>
    intro pc ls s hI
    refine sx_sound hsL he (fun _ _ _ _ q => q) (fun pc' ls' s' q => ?_) n pc ls [] s (h m pc ls s hI)
    obtain ⟨m', h1, h2⟩ := q
    exact ih m' h1 pc' ls' s' h2
theorem sx_methW {wr : Bool} {sL : Nat} {sx : Nat → Int32} {d mi n n' : Nat} {e : mx_En} {R : Int → sx_S → Prop} {stop : sx_Sp} {av : List sx_V} {s : sx_S} (I : Nat × Nat → Nat → sx_L → sx_S → Prop) (hsL : sL ≤ 3072) (he : mx_pg[mi]? = some e) (h0 : sx_wp wr sL sx e (sx_C sL sx (d + 1)) stop (fun pc' ls' s' => ∃ m', I m' pc' ls' s') R n' 0 (sx_argsF 0 av) [] s) (h : ∀ m pc ls s, I m pc ls s → sx_wp wr sL sx e (sx_C sL sx (d + 1)) stop (fun pc' ls' s' => ∃ m', Prod.Lex (· < ·) (· < ·) m' m ∧ I m' pc' ls' s') R n pc ls [] s) : sx_C sL sx (d + 2) mi av s R :=
  sx_sound hsL he (fun _ _ _ _ q => q) (fun pc' ls' s' q => sx_loopsW I hsL he h q.choose pc' ls' s' q.choose_spec) n' 0 _ [] s h0
theorem rf_lex1 {a b c d : Nat} (h : a < c) : Prod.Lex (· < ·) (· < ·) (a, b) (c, d) := Prod.Lex.left _ _ h
theorem rf_lex2 {a b d : Nat} (h : b < d) : Prod.Lex (· < ·) (· < ·) (a, b) (a, d) := Prod.Lex.right _ h
theorem rf_ar2 {e p' p D : Nat} (h : e + p' ≤ p) : e + D * p' ≤ max 1 D * p := by
  rcases Nat.eq_zero_or_pos D with hD | hD
  · subst hD
    rw [Nat.zero_mul, show max 1 0 = 1 from rfl, Nat.one_mul]
    omega
  · rw [Nat.max_eq_right hD]
    have h1 : D * (e + p') ≤ D * p := Nat.mul_le_mul_left _ h
    rw [Nat.mul_add] at h1
    have h2 : e ≤ D * e := Nat.le_mul_of_pos_left _ hD
    omega
theorem rf_ar3 {e p' p M : Nat} (h : e + p' ≤ p) (hM : 1 ≤ M) : e + M * p' ≤ M * p := by
  have h1 : M * (e + p') ≤ M * p := Nat.mul_le_mul_left _ h
  rw [Nat.mul_add] at h1
  have h2 : e ≤ M * e := Nat.le_mul_of_pos_left _ hM
  omega
theorem rf_ar1 {a b c p' : Nat} (h1 : c ≤ b) (h2 : b ≤ a) : (a - c) * p' = (a - b) * p' + (b - c) * p' := by
  rw [← Nat.add_mul]
  congr 1
  omega
/-- only names were made -/
def rf_UB (s u : sx_S) (p p' : Nat) : Prop := (cx_I u ∧ rf_EX (s.1 66 71) (s.1 66 58) s u ∧ rf_NC s u ∧ rf_FS s u) ∧ (s.1 66 71 ≤ u.1 66 71 ∧ u.1 66 71 + (p' : Int) ≤ s.1 66 71 + (p : Int)) ∧ (u.1 66 58 = s.1 66 58 ∧ u.1 66 50 = s.1 66 50 ∧ u.1 66 56 = s.1 66 56 ∧ u.1 66 61 = s.1 66 61 ∧ u.1 66 64 = s.1 66 64 ∧ u.1 66 70 = s.1 66 70)
theorem rf_UB_refl {s : sx_S} {p : Nat} (hI : cx_I s) : rf_UB s s p p := ⟨⟨hI, rf_EX_refl _ _ _, ⟨rfl, fun _ _ => rfl⟩, rf_FS_refl s⟩, ⟨Int.le_refl _, Int.le_refl _⟩, rfl, rfl, rfl, rfl, rfl, rfl⟩
theorem rf_UB_s {s u t : sx_S} {p p' k : Nat} (h : rf_UB s u p p') (h1 : cx_I t) (h2 : cx_F [(66, 66), (115, 117)] u t) (h3 : rf_f [71] u t) (h4 : rf_ag 115 117 (u.1 66 71) u t) (h5 : u.1 66 71 ≤ t.1 66 71 ∧ t.1 66 71 ≤ u.1 66 71 + (k : Int)) (hk : k ≤ p') : rf_UB s t p (p' - k) := by
  obtain ⟨⟨a1, a2, a3, a4⟩, ⟨b1, b2⟩, c1, c2, c3, c4, c5, c6⟩ := h
  obtain ⟨e1, e2⟩ := rf_EX_name (ib := u.1 66 58) h2 h3 h4
  have n1 : rf_NC u t := rf_NC_F h2 rfl h3 rfl
  exact ⟨⟨h1, rf_EX_trans e1 a2 (by omega) (by omega), ⟨n1.1.trans a3.1, fun j hj => (n1.2 j (by have := a3.1; omega)).trans (a3.2 j hj)⟩, rf_FS_trans e2 a4⟩, ⟨by omega, by omega⟩, (h3 58 rfl).trans c1, (h3 50 rfl).trans c2, (h3 56 rfl).trans c3, (h3 61 rfl).trans c4, (h3 64 rfl).trans c5, (h3 70 rfl).trans c6⟩
theorem rf_UB_M {s u : sx_S} {g : rf_Gh} {p p' : Nat} (h : rf_UB s u p p') (hM : rf_MI (s.1 66 71) (s.1 66 58) s g) (hp : rf_ph s g ≤ 1150) (hR : rf_RM 0 s) : rf_MI (u.1 66 71) (u.1 66 58) u g ∧ rf_ph u g ≤ 1150 ∧ rf_RM 0 u ∧ rf_qu u = rf_qu s := by
  obtain ⟨⟨a1, a2, a3, a4⟩, ⟨b1, b2⟩, c1, c2, c3, c4, c5, c6⟩ := h
  have hq := rf_NC_qu a2 a3
  exact ⟨rf_NC_MI a2 a3 (by omega) (by omega) hM, by rw [rf_NC_ph a2 a3]; exact hp, rf_RM_same hR c2 c3 c4 c5 c6 hq, hq⟩
/-- ARGs under way -/
def rf_UL (s u : sx_S) (g g1 : rf_Gh) (e p' : Nat) : Prop := (cx_I u ∧ rf_MI (u.1 66 71) (u.1 66 58) u g1 ∧ rf_EX (s.1 66 71) (s.1 66 58) s u ∧ rf_EG s g g1 ∧ rf_FS s u) ∧ (rf_ph u g1 ≤ 1150 ∧ rf_RM 0 u ∧ rf_qu u ≤ rf_qu s) ∧ (s.1 66 71 ≤ u.1 66 71 ∧ u.1 66 71 ≤ s.1 66 71 + (e : Int) + (((rf_qu s - rf_qu u) * p' : Nat) : Int)) ∧ (s.1 66 58 ≤ u.1 66 58 ∧ u.1 66 58 ≤ s.1 66 58 + (e : Int) + (((rf_qu s - rf_qu u) * p' : Nat) : Int)) ∧ (u.1 66 70 = s.1 66 70 → rf_NC s u) ∧ (u.1 66 70 ≠ s.1 66 70 → rf_qu u < rf_qu s)
theorem rf_UL_0 {s u : sx_S} {g : rf_Gh} {p p' : Nat} (h : rf_UB s u p p') (hM : rf_MI (s.1 66 71) (s.1 66 58) s g) (hp : rf_ph s g ≤ 1150) (hR : rf_RM 0 s) (q : Nat) (hpp : p' ≤ p) : rf_UL s u g g (p - p') q := by
  obtain ⟨m1, m2, m3, m4⟩ := rf_UB_M h hM hp hR
  obtain ⟨⟨a1, a2, a3, a4⟩, ⟨b1, b2⟩, c1, c2, c3, c4, c5, c6⟩ := h
  refine ⟨⟨a1, m1, a2, rf_EG_refl _ _, a4⟩, ⟨m2, m3, by omega⟩, ⟨b1, ?_⟩, ⟨by omega, ?_⟩, fun _ => a3, fun z => absurd c6 z⟩
  · rw [m4, Nat.sub_self, Nat.zero_mul]
    omega
  · rw [m4, Nat.sub_self, Nat.zero_mul]
    omega
/-- a part that solved nothing is forgotten -/
theorem rf_UL_b {s u t : sx_S} {g g1 : rf_Gh} {e p' : Nat} {z a b : Int} (hI : cx_I s) (h : rf_UL s u g g1 e p') (k : rf_PU u t g1 z p') (hz : z ≠ 0) (h70 : t.1 66 70 = u.1 66 70) (ha : a = u.1 66 71) (hb : b = u.1 66 58) : rf_UL s (sx_uf (sx_uf t.1 66 71 a) 66 58 b, t.2) g g1 e p' ∧ rf_EX (u.1 66 71) (u.1 66 58) u (sx_uf (sx_uf t.1 66 71 a) 66 58 b, t.2) := by
  obtain ⟨⟨h1, h2, h3, h4, h5⟩, ⟨h6, h6', h6''⟩, ⟨h7, h8⟩, ⟨h9, h10⟩, h11, h12⟩ := h
  obtain ⟨k1, k2, k3, k4⟩ := k
  obtain ⟨g', j1, j2, j3, j4, j5, j6, j7, j8⟩ := k4 hz
  have hn := j7 h70
  obtain ⟨o1, o2, o3⟩ := rf_back_f (a := a) (b := b) (t := t)
  have r58 := h1.fld 66 58 (by decide) rfl
  have r71 := h1.fld 66 71 (by decide) rfl
  have hcv : cx_I (sx_uf (sx_uf t.1 66 71 a) 66 58 b, t.2) := cx_I_uf rfl rfl (cx_I_uf rfl rfl k2 (by omega) (by omega)) (by omega) (by omega)
  have hfs : rf_FS s (sx_uf (sx_uf t.1 66 71 a) 66 58 b, t.2) := rf_FS_back (rf_FS_trans k3 h5) (by omega)
  have hEB : ∀ nb ib, rf_EX nb ib t (sx_uf (sx_uf t.1 66 71 a) 66 58 b, t.2) := fun nb ib => rf_EX_back
  generalize hv : ((sx_uf (sx_uf t.1 66 71 a) 66 58 b, t.2) : sx_S) = v at hcv hfs hEB ⊢
  have v1 : v.1 = sx_uf (sx_uf t.1 66 71 a) 66 58 b := by rw [← hv]
  have v2 : v.2.1 = t.2.1 := by rw [← hv]
  have o1' : ∀ q, q ≠ 71 → q ≠ 58 → v.1 66 q = t.1 66 q := fun q a b => by rw [v1]; exact o1 q a b
  have e71 : v.1 66 71 = u.1 66 71 := by rw [v1, o2]; exact ha
  have e58 : v.1 66 58 = u.1 66 58 := by rw [v1, o3]; exact hb
  have w61 := o1' 61 (by decide) (by decide)
  have w70 := o1' 70 (by decide) (by decide)
  have hNu : rf_NC u v := ⟨w61.trans hn.1, fun q hq => by rw [v2]; exact hn.2 q hq⟩
  have hEu : rf_EX (u.1 66 71) (u.1 66 58) u v := rf_EX_trans (hEB _ _) j2 (Int.le_refl _) (Int.le_refl _)
  have hq : rf_qu v = rf_qu u := rf_NC_qu hEu hNu
  refine ⟨⟨⟨hcv, ?_, rf_EX_trans hEu h3 (by omega) (by omega), h4, hfs⟩, ⟨by rw [rf_NC_ph hEu hNu]; exact h6, ?_, by omega⟩, ⟨by omega, by rw [hq]; omega⟩, ⟨by omega, by rw [hq]; omega⟩, fun q => ?_, fun q => by rw [hq]; exact h12 (by omega)⟩, hEu⟩
  · rw [e71, e58]
    exact rf_NC_MI hEu hNu (Int.le_refl _) (Int.le_refl _) h2
  · obtain ⟨s1, s2, s3, s4, s5, s6⟩ := j4.2.1
    have hqt : rf_qu t = rf_qu u := rf_NC_qu j2 hn
    have w50 := o1' 50 (by decide) (by decide)
    have w56 := o1' 56 (by decide) (by decide)
    have w64 := o1' 64 (by decide) (by decide)
    exact ⟨by omega, by omega, by omega, by omega, by omega, by omega⟩
  · have h13 := h11 (by omega)
    exact ⟨hNu.1.trans h13.1, fun j hj => (hNu.2 j (by have := h13.1; omega)).trans (h13.2 j hj)⟩
