/-! ===== long forms in the desk's memory ===== -/
theorem vl_tm_mono {SN : Int → Int → Prop} {C M : List (Int × qx_T)} {TV TV' : Int → qx_T → Prop} {AR : Nat → List Int} (hT : ∀ v T, TV v T → TV' v T) : ∀ {n : px_N}, (∀ {W : rf_N} {Γ : List (Int × qx_T)} {ρ : List Int} {x : qx_T}, (vl_tm SN C M TV AR n).1 W Γ ρ x → (vl_tm SN C M TV' AR n).1 W Γ ρ x) ∧ (∀ {F : rf_N} {Γ : List (Int × qx_T)} {ρ : List Int} {U L : qx_T}, (vl_tm SN C M TV AR n).2 F Γ ρ U L → (vl_tm SN C M TV' AR n).2 F Γ ρ U L)
  | .leaf => ⟨fun h => h.elim, fun h => h⟩
  | .inner g q u0 f n => by
    have hf := vl_tm_mono (SN := SN) (C := C) (M := M) (AR := AR) hT (n := f)
    have hn := vl_tm_mono (SN := SN) (C := C) (M := M) (AR := AR) hT (n := n)
    have one : ∀ {W : rf_N} {Γ : List (Int × qx_T)} {ρ : List Int} {x : qx_T}, (vl_tm SN C M TV AR (.inner g q u0 f n)).1 W Γ ρ x → (vl_tm SN C M TV' AR (.inner g q u0 f n)).1 W Γ ρ x := by
      intro W Γ ρ x h
      rcases h with ⟨g0, j, v, F, B, h1, ⟨h2, h2a, h2b, h2c⟩, h3, h4⟩ | ⟨g0, k, i, U, h0, h1, h2, h3⟩
      · exact Or.inl ⟨g0, j, v, F, B, h1, ⟨h2, h2a, hT _ _ h2b, h2c⟩, hf.1 h3, h4⟩
      · refine Or.inr ⟨g0, k, i, U, h0, h1, h2, ?_⟩
        rcases h3 with ⟨k3, F, r1, r2⟩ | ⟨k3, ls, r1, r2, r3, r4⟩
        · exact Or.inl ⟨k3, F, hf.2 r1, vl_c1_mono hT r2⟩
        · exact Or.inr ⟨k3, ls, r1, r2, r3, vl_c3_mono hT r4⟩
    refine ⟨one, fun {F Γ ρ U L} h => ?_⟩
    obtain ⟨W, X, A, U1, a, a3, a4, a5⟩ := vl_tm_c.mp h
    exact vl_tm_c.mpr ⟨W, X, A, U1, a, a3, one a4, hn.2 a5⟩
/-- one ARG more in a row -/
theorem vl_tm_snoc {SN : Int → Int → Prop} {C M : List (Int × qx_T)} {TV : Int → qx_T → Prop} {AR : Nat → List Int} {Γ : List (Int × qx_T)} {ρ : List Int} {g : Nat} {q : Int × qx_T} {f' : px_N} {W : rf_N} {A w : qx_T} (hW : vx_sg W) (h : (vl_tm SN C M TV AR (.inner g q () f' .leaf)).1 W Γ ρ A) : ∀ {r : px_N} {F : rf_N} {U : qx_T}, (vl_tm SN C M TV AR r).2 F Γ ρ U (qx_a A w) → (vl_tm SN C M TV AR (px_snoc r (.inner g q () f' .leaf))).2 (rf_snoc F W) Γ ρ U w
  | .leaf, F, U, ⟨h1, h2⟩ => by
    subst h1
    refine vl_tm_c.mpr ⟨W, .leaf, A, w, ⟨hW, ?_⟩, h2, h, rfl, rfl⟩
    obtain ⟨j, k, hh, G, rfl⟩ := hW
    rfl
  | .inner g1 q1 u1 f1 n1, F, U, hr => by
    obtain ⟨W1, X, A1, U1, ⟨a1, a2⟩, a3, a4, a5⟩ := vl_tm_c.mp hr
    refine vl_tm_c.mpr ⟨W1, rf_snoc X W, A1, U1, ⟨a1, ?_⟩, a3, a4, vl_tm_snoc hW h a5⟩
    obtain ⟨j, k, hh, G, rfl⟩ := a1
    rw [a2]
    rfl
theorem dl_ar_snoc {AR : Nat → List Int} {g : rf_N} : ∀ {f : rf_N}, dl_ar AR (rf_snoc f g) → dl_ar AR f ∧ dl_ar AR g
  | .leaf, h => ⟨trivial, h⟩
  | .inner j q u F X, ⟨h1, h2, h3⟩ => ⟨⟨h1, h2, (dl_ar_snoc h3).1⟩, (dl_ar_snoc h3).2⟩
theorem vl_c1_ar {TV : Int → qx_T → Prop} {AR : Nat → List Int} : ∀ {x : qx_T} {W : rf_N} {k h : Int} {f : rf_N} {ρ : List Int}, vl_c1 TV x W k h f ρ → k ≠ 3 → dl_ar AR W → dl_ar AR f
  | .leaf, W, k, h, f, ρ, ⟨j, e⟩, k3, ha => by
    rw [e] at ha
    exact ha.2.1 k3
  | .inner n b _ x y, W, k, h, f, ρ, hc, k3, ha => by
    rcases hc with ⟨_, j, e⟩ | ⟨_, j, v, g, W', e, _, _, _, h5⟩
    · rw [e] at ha
      exact ha.2.1 k3
    · rw [e] at ha
      exact (dl_ar_snoc (vl_c1_ar h5 k3 (ha.2.1 vx_03))).1
theorem dl_TV_G {lo : Int} {s t : sx_S} (h : dz_G lo s t) : ∀ v T, dl_TV s v T → dl_TV t v T := fun v T ⟨h1, h2, h3⟩ => by
  obtain ⟨_, _, _, _, ⟨g1, g2⟩, _⟩ := h trivial
  refine ⟨h1, by omega, ?_⟩
  rw [g2 v.toNat (by omega)]
  exact dz_G_is h h3
/-- what is made of a TERM; of a row of ARGs -/
def dl_mt (b : Nat → Int) (n : Int) (C M : List (Int × qx_T)) (lo : Int) (t : sx_S) (W : rf_N) (nn : px_N) (Γ : List (Int × qx_T)) (ρ : List Int) (x : qx_T) : Prop := True → dl_nb lo (t.1 11 8) W ∧ vx_sg W ∧ ∀ AR, dl_ar AR W → (vl_tm (px_SN b n) C M (dl_TV t) AR nn).1 W Γ ρ x
def dl_mr (b : Nat → Int) (n : Int) (C M : List (Int × qx_T)) (lo : Int) (t : sx_S) (F : rf_N) (r : px_N) (Γ : List (Int × qx_T)) (ρ : List Int) (U L : qx_T) : Prop := True → dl_nb lo (t.1 11 8) F ∧ ∀ AR, dl_ar AR F → (vl_tm (px_SN b n) C M (dl_TV t) AR r).2 F Γ ρ U L
theorem dl_nb_mono {lo hi lo' hi' : Int} {W : rf_N} (h1 : lo' ≤ lo) (h2 : hi ≤ hi') (h : dl_nb lo hi W) : dl_nb lo' hi' W := vx_nb_mono (fun z hz => by omega) h
theorem dl_mr_snoc {b : Nat → Int} {n : Int} {C M : List (Int × qx_T)} {lo : Int} {u t v : sx_S} {F W : rf_N} {r0 : px_N} {g : Nat} {q : Int × qx_T} {f' : px_N} {Γ : List (Int × qx_T)} {ρ : List Int} {U L A w : qx_T} (hlo : lo ≤ u.1 11 8) (hL : L = qx_a A w) (h : dl_mr b n C M lo u F r0 Γ ρ U L) (h2 : dl_mt b n C M (u.1 11 8) t W (.inner g q () f' .leaf) Γ ρ A) (htu : u.1 11 8 ≤ t.1 11 8) (e8 : v.1 11 8 = t.1 11 8) (hT : ∀ x T, dl_TV u x T → dl_TV v x T) (hT2 : ∀ x T, dl_TV t x T → dl_TV v x T) : dl_mr b n C M lo v (rf_snoc F W) (px_snoc r0 (.inner g q () f' .leaf)) Γ ρ U w := fun _ => by
  obtain ⟨a1, a2⟩ := h trivial
  obtain ⟨b1, b2, b3⟩ := h2 trivial
  subst hL
  rw [e8]
  refine ⟨vx_nb_snoc (dl_nb_mono hlo (Int.le_refl _) b1) (dl_nb_mono (Int.le_refl _) htu a1), fun AR hA => ?_⟩
  obtain ⟨c1, c2⟩ := dl_ar_snoc hA
  exact vl_tm_snoc b2 ((vl_tm_mono hT2).1 (b3 AR c2)) ((vl_tm_mono hT).2 (a2 AR c1))
/-! ===== the desk's checker: a NAME and its ARGs ===== -/
/-- every \\'s TYPE is small -/
def px_ls : px_N → Prop
  | .leaf => True
  | .inner g q _ f x => (g = 0 → qx_at q.2 ≤ 5) ∧ px_ls f ∧ px_ls x
theorem px_ls_snoc {p : px_N} : ∀ {r : px_N}, px_ls (px_snoc r p) → px_ls r ∧ px_ls p
  | .leaf, h => ⟨trivial, h⟩
  | .inner _ _ _ _ _, ⟨h1, h2, h3⟩ => ⟨⟨h1, h2, (px_ls_snoc h3).1⟩, (px_ls_snoc h3).2⟩
def dz_R (b : Nat → Int) (n : Int) (C M : List (Int × qx_T)) (nn : px_N) (Γ : List (Int × qx_T)) (ρ : List Int) (s t : sx_S) (c B V z : Int) (x : qx_T) (W : rf_N) : Prop := True → dz_G (s.1 11 6) s t ∧ t.1 18 11 = c ∧ (px_wt (px_SN b n) C M nn).1 Γ x ∧ dx_is t x (t.1 18 12) ∧ (W ≠ .leaf ∧ dz_T (s.1 11 6) t W z) ∧ (dz_mt (px_SN b n) W nn Γ ρ ∧ dl_mt b n C M (s.1 11 8) t W nn Γ ρ x) ∧ (t.1 11 6 ≤ s.1 11 6 + B ∧ t.1 11 8 ≤ s.1 11 8 + V ∧ t.1 8 2 ≤ s.1 8 2 + (c - s.1 18 11))
def px_on (K : Nat → Int) (f : Nat) (a : Int) (pp : px_N) (e : Int) : Prop := (K a.toNat = 2 ∧ pp = px_app a .leaf .leaf ∧ e = a + 1) ∨ (K a.toNat = 9 ∧ ∃ e', px_TM K f (a + 1) pp e' ∧ K e'.toNat = 10 ∧ e = e' + 1)
theorem px_TM_1 {K : Nat → Int} {f : Nat} {a : Int} {t : px_N} {c : Int} (h : px_TM K f a t c) : ∃ g q f', t = .inner g q () f' .leaf := by
  cases f with
  | zero => exact h.elim
  | succ f =>
    rcases h with ⟨_, _, _, x, e, _, _, u, _, h⟩ | ⟨_, r, _, h⟩
    · exact ⟨_, _, _, h⟩
    · exact ⟨_, _, _, h⟩
theorem px_AR_step {K : Nat → Int} {f : Nat} {a : Int} {r0 r : px_N} {c : Int} (h : px_AR K (px_TM K f) a r0 r c) (hk : K a.toNat = 2 ∨ K a.toNat = 9) : ∃ pp e, px_on K f a pp e ∧ px_AR K (px_TM K f) e (px_snoc r0 pp) r c ∧ (∃ g q f', pp = .inner g q () f' .leaf) ∧ a < e ∧ e ≤ c := by
  have hle : ∀ {e : Int} {r1 : px_N}, px_AR K (px_TM K f) e r1 r c → e ≤ c := fun ⟨g, h⟩ => px_ARg_le (fun _ _ _ q => px_TM_le q) h
  rcases px_AR_it.mp h with ⟨h1, t, e, h2, h3, h4⟩ | ⟨h1, h2⟩ | ⟨h1, h2, _⟩
  · have := px_TM_le h2
    exact ⟨t, e + 1, Or.inr ⟨h1, e, h2, h3, rfl⟩, h4, px_TM_1 h2, by omega, hle h4⟩
  · exact ⟨_, a + 1, Or.inl ⟨h1, rfl, rfl⟩, h2, ⟨_, _, _, rfl⟩, by omega, hle h2⟩
  · omega
theorem px_AR_end {K : Nat → Int} {f : Nat} {a : Int} {r0 r : px_N} {c : Int} (h : px_AR K (px_TM K f) a r0 r c) (h2 : K a.toNat ≠ 2) (h9 : K a.toNat ≠ 9) : r = r0 ∧ c = a := by
  rcases px_AR_it.mp h with ⟨h1, _⟩ | ⟨h1, _⟩ | ⟨_, _, h3, h4⟩
  · exact absurd h1 h9
  · exact absurd h1 h2
  · exact ⟨h3, h4⟩
theorem px_lv_le {b : Nat → Int} {n a c : Int} (h : px_lv b n c.toNat) (hl : a ≤ c) : px_lv b n a.toNat := fun j hj => h j (by omega)
theorem dz_T_z {lo z : Int} {s : sx_S} {W : rf_N} (h : dz_T lo s W z) (hW : W ≠ .leaf) : 0 ≤ z ∧ z < s.1 11 6 ∧ lo ≤ z := by
  cases W with
  | leaf => exact absurd rfl hW
  | inner j k u f x =>
    obtain ⟨⟨⟨q1, q2⟩, _⟩, _, _, q3, _⟩ := h trivial
    have := q3 _ List.mem_cons_self
    omega
theorem px_uS {F : Nat → Nat → Int} {B : (Nat → Nat → Int) × (Nat → Nat → Int) × Nat} {p k : Nat} {v : Int} : ((sx_uf F p k v, B) : sx_S).1 p k = v := px_us F p k v
/-- with some of its ARGs read -/
def dz_NI (b : Nat → Int) (n : Int) (C M : List (Int × qx_T)) (f : Nat) (p c : Int) (r : px_N) (Γ : List (Int × qx_T)) (ρ : List Int) (s : sx_S) (k h : Int) (i : Nat) (U : qx_T) (a1 x5 x6 x7 : Int) (L : qx_T) (r0 : px_N) (F : rf_N) (u : sx_S) : Prop := True → (dz_G (s.1 11 6) s u ∧ px_hd (px_SN b n) C M Γ p k i U ∧ ((k = 2 → h = px_id ρ i) ∧ (k ≠ 2 → h = (i : Int))) ∧ 1 ≤ k) ∧ ((px_wt (px_SN b n) C M r0).2 Γ U L ∧ dx_is u L x5 ∧ qx_at L ≤ 5) ∧ ((a1 = 1 ∧ px_AR (px_K b n) (px_TM (px_K b n) f) (u.1 18 11) r0 r c) ∨ (a1 = 0 ∧ r = r0 ∧ c = u.1 18 11)) ∧ dz_T (s.1 11 6) u (rf_n (s.1 11 6).toNat k h F .leaf) (s.1 11 6) ∧ (k ≠ 3 → x6 = 1 ∧ dz_mr (px_SN b n) F r0 Γ ρ ∧ dl_mr b n C M (s.1 11 8) u F r0 Γ ρ U L) ∧ (k = 3 → (x6 = 1 ∧ dz_pt (px_SN b n) F r0 Γ ρ) ∨ (x6 = 0 ∧ ¬ px_pt' (px_SN b n) Γ r0)) ∧ (p + 1 + x7 ≤ u.1 18 11 ∧ 0 ≤ x7 ∧ (a1 = 0 → u.1 11 6 = s.1 11 6 + 1 ∧ u.1 11 8 = s.1 11 8)) ∧ ((rf_len F : Int) + 1 + s.1 11 6 ≤ u.1 11 6 ∧ u.1 11 6 + 2 * (qx_at L : Int) ≤ s.1 11 6 + 3 * (u.1 18 11 - p) + 8 ∧ u.1 11 8 + (qx_at L : Int) ≤ s.1 11 8 + 2 * (u.1 18 11 - p) + 3 ∧ u.1 8 2 ≤ s.1 8 2 + (u.1 18 11 - p))
/-- one ARG more -/
theorem dz_NI_s {b : Nat → Int} {n : Int} {C M : List (Int × qx_T)} {f : Nat} {p c : Int} {r : px_N} {Γ : List (Int × qx_T)} {ρ : List Int} {s u t v : sx_S} {k h : Int} {i : Nat} {U : qx_T} {x5 x6 x6' x7 l : Int} {L A w : qx_T} {r0 pp : px_N} {F F' W : rf_N} {e B V z : Int} (hN : dz_NI b n C M f p c r Γ ρ s k h i U 1 x5 x6 x7 L r0 F u) (hR : dz_R b n C M pp Γ ρ u t e B V z A W) (hp : ∃ g q f', pp = .inner g q () f' .leaf) (hA : px_AR (px_K b n) (px_TM (px_K b n) f) e (px_snoc r0 pp) r c) (hae : u.1 18 11 < e) (hL : L = qx_a A w) (hw : dx_is t w l) (hB : B ≤ 3 * (e - u.1 18 11) + 2 * (qx_at A : Int) - 2) (hV : V ≤ 2 * (e - u.1 18 11) + (qx_at A : Int) - 1) (vI : cx_I v) (vF : cx_F [(11, 17)] t v) (v6 : t.1 11 6 ≤ v.1 11 6 ∧ v.1 11 6 ≤ t.1 11 6 + 1) (v8 : v.1 11 8 = t.1 11 8 ∧ v.2.1 17 = t.2.1 17) (vfr : dz_fr (fun j => (j : Int) < s.1 11 6) t v) (vT : dz_T (s.1 11 6) v (rf_n (s.1 11 6).toNat k h F' .leaf) (s.1 11 6)) (vl : rf_len F' ≤ rf_len F + 1) (h1 : k ≠ 3 → x6' = 1 ∧ dz_mr (px_SN b n) F' (px_snoc r0 pp) Γ ρ ∧ dl_mr b n C M (s.1 11 8) v F' (px_snoc r0 pp) Γ ρ U w) (h2 : k = 3 → (x6' = 1 ∧ dz_pt (px_SN b n) F' (px_snoc r0 pp) Γ ρ) ∨ (x6' = 0 ∧ ¬ px_pt' (px_SN b n) Γ (px_snoc r0 pp))) : dz_NI b n C M f p c r Γ ρ s k h i U 1 l x6' (x7 + 1) w (px_snoc r0 pp) F' v := fun _ => by
  obtain ⟨⟨a1, a2, a3, a4⟩, ⟨a5, a6, a7⟩, a8, a9, a10, a11, ⟨a12, a13, a14⟩, a15, a16, a17, a18⟩ := hN trivial
  obtain ⟨b1, b2, b3, b4, ⟨b5, b6⟩, b7, b8, b9, b10⟩ := hR trivial
  have g1 : dz_G (s.1 11 6) t v := dz_G_11 vI vF (dz_G_T b1) vfr ⟨by omega, fun j _ => by rw [v8.2]⟩
  have u6 : s.1 11 6 ≤ u.1 11 6 := ((a1 trivial).2.2.2.1 trivial).1
  have e11 : v.1 18 11 = e := (congrFun (vF.same 18 rfl).1 11).trans b2
  have e8 : v.1 8 2 = t.1 8 2 := congrFun (vF.same 8 rfl).1 2
  have hz := dz_T_z b6 b5
  have eL : qx_at L = qx_at A + qx_at w := by rw [hL]; rfl
  have wp := qx_at_pos w
  have Ap := qx_at_pos A
  obtain ⟨g, q, f', rfl⟩ := hp
  refine ⟨⟨dz_G_t g1 (dz_G_t (dz_G_lo b1 u6) a1), a2, a3, a4⟩, ⟨px_wt_snoc.mpr ⟨L, a5, px_wt_c.mpr ⟨A, w, hL, b3, rfl⟩⟩, dz_G_is g1 hw, by omega⟩, Or.inl ⟨rfl, by rw [e11]; exact hA⟩, vT, h1, h2, ⟨by omega, by omega, fun q => absurd q (by decide)⟩, by omega, by omega, by omega, by omega⟩
/-- with one ARG read and not yet given -/
def dz_N8 (b : Nat → Int) (n : Int) (C M : List (Int × qx_T)) (f : Nat) (p c : Int) (r : px_N) (Γ : List (Int × qx_T)) (ρ : List Int) (s : sx_S) (k h : Int) (i : Nat) (U : qx_T) (x5 x6 x7 : Int) (L : qx_T) (r0 : px_N) (F : rf_N) (pp : px_N) (e : Int) (v u : sx_S) (x9 : Int) (A : qx_T) (W : rf_N) (B V : Int) : Prop := True → dz_NI b n C M f p c r Γ ρ s k h i U 1 x5 x6 x7 L r0 F v ∧ px_AR (px_K b n) (px_TM (px_K b n) f) e (px_snoc r0 pp) r c ∧ (∃ g q f', pp = .inner g q () f' .leaf) ∧ (v.1 18 11 < e ∧ e ≤ c) ∧ (B ≤ 3 * (e - v.1 18 11) + 2 * (qx_at A : Int) - 2 ∧ V ≤ 2 * (e - v.1 18 11) + (qx_at A : Int) - 1) ∧ dz_R b n C M pp Γ ρ v u e B V x9 A W
/-- no type -/
theorem dz_no {b : Nat → Int} {n : Int} {C M Γ : List (Int × qx_T)} {p k : Int} {i : Nat} {U L : qx_T} {r r0 pp q' : px_N} (hd : px_hd (px_SN b n) C M Γ p k i U) (hr : (px_wt (px_SN b n) C M r0).2 Γ U L) (hq : r = px_snoc (px_snoc r0 pp) q') (hp : ∃ g q f', pp = .inner g q () f' .leaf) (hno : ∀ A B, (px_wt (px_SN b n) C M pp).1 Γ A → L = qx_a A B → False) : ∀ x, ¬ (px_wt (px_SN b n) C M (px_app p r .leaf)).1 Γ x := fun x hx => by
  rw [px_snoc_assoc] at hq
  have h1 := px_wt_row (q := (p, .leaf)) Nat.one_ne_zero hd hr hq hx
  obtain ⟨g, q, f', rfl⟩ := hp
  obtain ⟨w, h2, _⟩ := px_wt_snoc.mp h1
  obtain ⟨A, B, h3, h4, _⟩ := px_wt_c.mp h2
  exact hno A B h4 h3

theorem st_dz_named {sL : Nat} {sx : Nat → Int32} (hsL : sL ≤ 3072) (b : Nat → Int) (n : Int) (C M : List (Int × qx_T)) (f : Nat) {d : Nat} (hd : 12 ≤ d) (w1 : Int) (h_arg : w1 = 1 → ∀ (q e a0 : Int) (pp : px_N) (Γ : List (Int × qx_T)) (ρ : List Int) (s : sx_S) (R : Int → sx_S → Prop), cx_I s → a0 = 20 - ((f : Nat) : Int) → (Γ.length : Int) ≤ a0 → s.1 18 11 = q → 0 ≤ q → px_on (px_K b n) f q pp e → px_ls pp → dz_E b n C M s → dz_SC s Γ ρ → px_lv b n e.toNat → (s.1 11 6 + 3 * (e - q) + 14 ≤ 1024 ∧ s.1 11 8 + 2 * (e - q) + 16 ≤ 512 ∧ s.1 8 2 + (e - q) ≤ 255) → (∀ z t x W B V, B ≤ 3 * (e - q) + 2 * (qx_at x : Int) - 2 → V ≤ 2 * (e - q) + (qx_at x : Int) - 1 → dz_R b n C M pp Γ ρ s t e B V z x W → R z t) → ((∀ x, ¬ (px_wt (px_SN b n) C M pp).1 Γ x) → ∀ t, cx_I t → t.1 18 9 = s.1 18 9 → R (-1) t) → sx_C sL sx (d + 1) 31 [.inr (.inl 18), .inl a0] s R) : ∀ (p c a0 a1 : Int) (r : px_N) (Γ : List (Int × qx_T)) (ρ : List Int) (s : sx_S) (R : Int → sx_S → Prop), a1 = w1 → cx_I s → a0 = 20 - ((f : Nat) : Int) → (Γ.length : Int) ≤ a0 → s.1 18 11 = p → 0 ≤ p → ((a1 = 1 ∧ px_AR (px_K b n) (px_TM (px_K b n) f) (p + 1) .leaf r c) ∨ (a1 = 0 ∧ r = .leaf ∧ c = p + 1)) → px_ls r → dz_E b n C M s → dz_SC s Γ ρ → px_lv b n c.toNat → (a1 = 1 → s.1 11 6 + 3 * (c - p) + 20 ≤ 1024 ∧ s.1 11 8 + 2 * (c - p) + 20 ≤ 512) → (s.1 11 6 + 17 ≤ 1024 ∧ s.1 11 8 + 18 ≤ 512 ∧ s.1 8 2 + (c - p) ≤ 255) → (∀ z t x W B V, (a1 = 1 → B ≤ 3 * (c - p) + 6 ∧ V ≤ 2 * (c - p) + 2) → (a1 = 0 → B ≤ 2 * (qx_at x : Int) - 1 ∧ V ≤ (qx_at x : Int) - 1) → dz_R b n C M (px_app p r .leaf) Γ ρ s t c B V z x W → R z t) → ((∀ x, ¬ (px_wt (px_SN b n) C M (px_app p r .leaf)).1 Γ x) → ∀ t, cx_I t → t.1 18 9 = s.1 18 9 → R (-1) t) → sx_C sL sx (d + 2) 29 [.inr (.inl 18), .inl a0, .inl a1] s R := by
  intro p c a0 a1 r Γ ρ s R hw1 hI p0 pg pp0 pp1 pA pl hE hS hlv hr1 hr2 hK hX
  have h0 := hI.fld 11 6 (by decide) rfl
  have h8 := hI.fld 11 8 (by decide) rfl
  obtain ⟨e1, e2, e3, ⟨e4, e5⟩, e6, e7⟩ := hE trivial
  obtain ⟨⟨s1, s2⟩, s3, s4, s5, s6⟩ := hS trivial
  have hTK := (e1 trivial).2.2
  have hm := (hTK trivial).1
  have hqa : a1 = 0 ∨ a1 = 1 := by rcases pA with q | q <;> omega
  have hpc : p + 1 ≤ c := by
    rcases pA with ⟨_, g, q⟩ | ⟨_, _, q⟩
    · exact px_ARg_le (fun _ _ _ q => px_TM_le q) q
    · omega
  have hcm := (px_TK_kd hTK (show 0 ≤ c by omega) hlv).2.2
  refine sx_methL (wr := true) (n := 400) (n' := 400) (stop := [(48, [0, 1, 2, 3, 4, 5, 6, 7]), (80, [0, 1, 2, 3, 4, 5, 6, 7, 8, 9]), (124, [0, 1, 2, 3, 4, 5, 6, 7, 9]), (153, [0, 3, 4, 5, 6])]) (fun nn pc ls u => (pc = 48 ∧ ∃ (x5 x6 x7 k h : Int) (i : Nat) (U L : qx_T) (r0 : px_N) (F : rf_N), ls = [(0, .inr (.inl 18)), (1, .inl a0), (2, .inl a1), (3, .inl p), (4, .inl (s.1 11 6)), (5, .inl x5), (6, .inl x6), (7, .inl x7)] ∧ dz_NI b n C M f p c r Γ ρ s k h i U a1 x5 x6 x7 L r0 F u ∧ nn = (3000 - 3 * x7).toNat) ∨ (pc = 153 ∧ ∃ (x5 x6 x7 k h : Int) (i : Nat) (U L : qx_T) (F : rf_N), ls = [(0, .inr (.inl 18)), (3, .inl p), (4, .inl (s.1 11 6)), (5, .inl x5), (6, .inl x6)] ∧ dz_NI b n C M f p c r Γ ρ s k h i U a1 x5 x6 x7 L r F u ∧ u.1 18 11 = c ∧ nn = 0) ∨ (pc = 80 ∧ a1 = 1 ∧ ∃ x5 x6 x7 x8 x9 : Int, ls = [(0, .inr (.inl 18)), (1, .inl a0), (2, .inl a1), (3, .inl p), (4, .inl (s.1 11 6)), (5, .inl x5), (6, .inl x6), (7, .inl x7), (8, .inl x8), (9, .inl x9)] ∧ (0 ≤ x7 ∧ x7 < 240) ∧ (-2147483648 ≤ x8 ∧ x8 ≤ 2147483647) ∧ cx_I u ∧ ((x9 = -1 ∧ u.1 18 9 = s.1 18 9 ∧ ∀ x, ¬ (px_wt (px_SN b n) C M (px_app p r .leaf)).1 Γ x) ∨ ∃ (k h : Int) (i : Nat) (U L : qx_T) (r0 : px_N) (F : rf_N) (pp : px_N) (e : Int) (v : sx_S) (A : qx_T) (W : rf_N) (B V : Int), dz_N8 b n C M f p c r Γ ρ s k h i U x5 x6 x7 L r0 F pp e v u x9 A W B V) ∧ nn = (2999 - 3 * x7).toNat) ∨ (pc = 124 ∧ a1 = 1 ∧ ∃ x5' x5 x6 x7 x9 : Int, ls = [(0, .inr (.inl 18)), (1, .inl a0), (2, .inl a1), (3, .inl p), (4, .inl (s.1 11 6)), (5, .inl x5), (6, .inl x6), (7, .inl x7), (9, .inl x9)] ∧ (0 ≤ x7 ∧ x7 < 240) ∧ (x6 = 0 ∨ x6 = 1) ∧ (∃ (k h : Int) (i : Nat) (U L : qx_T) (r0 : px_N) (F : rf_N) (pp : px_N) (e : Int) (v : sx_S) (A : qx_T) (W : rf_N) (B V : Int) (w : qx_T), dz_N8 b n C M f p c r Γ ρ s k h i U x5' x6 x7 L r0 F pp e v u x9 A W B V ∧ L = qx_a A w ∧ dx_is u w x5) ∧ nn = (2998 - 3 * x7).toNat)) hsL (e := eX1_named) rfl ?_ ?_
  · refine w_nm (lo := s.1 11 6) (Zm := fun t => ∃ k h i u, dz_mn b n C M Γ ρ p s t k h i u) (Zx := ∀ k i u, ¬ px_hd (px_SN b n) C M Γ p k i u) (c_dz_blame hsL (d + 1) (by omega)) hI (by omega) ?_ ?_ ?_ ?_
    · rintro t ⟨k, h, i, u, m⟩
      exact dz_G_I (m trivial).2.2.2.1
    · intro K k1 k2
      rw [pp0]
      exact c_dz_meaning hsL (d + 1) (by omega) b n C M p Γ ρ s K hI (by omega) hE hS (by omega) (fun t k h i u _ m => k1 t ⟨k, h, i, u, m⟩) k2
    · intro q t t1 t2
      refine hX (fun x hx => ?_) t t1 t2
      rcases hx with ⟨hx, _⟩ | ⟨_, o, k, u, hx, _⟩
      · exact absurd hx Nat.one_ne_zero
      · exact q o k u hx
    · rintro t ⟨k, h, i, U, hmn⟩ w hw y hy
      obtain ⟨m1, m2, ⟨m3, m3'⟩, m4, m5, ⟨m6, m7, m8, m9⟩, m10, m11⟩ := hmn trivial
      have ew : w = p + 1 := by rw [hw, m9, pp0, px_wid (by omega) (by omega)]
      subst ew
      have hIt : cx_I (sx_uf t.1 18 11 (p + 1), t.2) := cx_I_uf rfl rfl (dz_G_I m4) (by omega) (by omega)
      have g1 : dz_G (s.1 11 6) t (sx_uf t.1 18 11 (p + 1), t.2) := dz_G_uf hIt (dz_G_T m4) rfl
      have e11 : (sx_uf t.1 18 11 (p + 1), t.2).1 18 11 = p + 1 := px_uS
      rw [pp0]
      refine ⟨_, Or.inl ⟨rfl, y, 1, 0, k, h, i, U, U, .leaf, .leaf, rfl, fun _ => ⟨⟨dz_G_t g1 m4, m1, m2, m3'⟩, ⟨rfl, dz_G_is g1 (by rw [hy]; exact m5), m11⟩, ?_, fun _ => (m10 trivial), fun _ => ⟨rfl, dz_mr_nil, fun _ => ⟨trivial, fun _ _ => ⟨rfl, rfl⟩⟩⟩, fun _ => Or.inl ⟨rfl, dz_pt_nil⟩, ⟨by rw [e11]; omega, by omega, fun _ => ⟨m6, m7⟩⟩, ?_, ?_, ?_, ?_⟩, rfl⟩⟩
      · rw [e11]
        rcases pA with q | ⟨q1, q2, q3⟩
        · exact Or.inl q
        · exact Or.inr ⟨q1, q2, q3⟩
      · show (0 : Int) + 1 + _ ≤ t.1 11 6
        omega
      · rw [e11]
        show t.1 11 6 + _ ≤ _
        omega
      · rw [e11]
        show t.1 11 8 + _ ≤ _
        omega
      · rw [e11]
        show t.1 8 2 ≤ _
        omega
  · rintro nn pc ls u (⟨rfl, x5, x6, x7, k, h, i, U, L, r0, F, rfl, hNI, rfl⟩ | ⟨rfl, x5, x6, x7, k, h, i, U, L, F, rfl, hNI, huc, rfl⟩ | ⟨rfl, ha1, x5, x6, x7, x8, x9, rfl, r7, r8, uI, hU, rfl⟩ | ⟨rfl, ha1, x5', x5, x6, x7, x9, rfl, r7, r6, ⟨k, h, i, U, L, r0, F, pp, e, v, A, W, B, V, w', h8, l1, l3⟩, rfl⟩)
    · obtain ⟨⟨n1, n2, n3, n4⟩, ⟨n5, n6, n7⟩, n8, n9, n10, n11, ⟨n12, n13, n14⟩, n15, n16, n17, n18⟩ := hNI trivial
      have uI := dz_G_I n1
      have uE := dz_E_G hE n1
      have uS := dz_SC_G hS n1
      have u9 : u.1 18 9 = s.1 18 9 := (n1 trivial).2.1 9 rfl
      have uTK := ((uE trivial).1 trivial).2.2
      have hac : u.1 18 11 ≤ c := by
        rcases n8 with ⟨_, g, q⟩ | ⟨_, _, q⟩
        · exact px_ARg_le (fun _ _ _ q => px_TM_le q) q
        · omega
      have Lp := qx_at_pos L
      have hq6 : x6 = 0 ∨ x6 = 1 := by
        by_cases q : k = 3
        · rcases n11 q with q | q <;> omega
        · have := n10 q
          omega
      have ulv := px_lv_le hlv hac
      by_cases hB : px_K b n (u.1 18 11).toNat = 2 ∨ px_K b n (u.1 18 11).toNat = 9
      · by_cases ha1 : a1 = 1
        · subst ha1
          have hAR : px_AR (px_K b n) (px_TM (px_K b n) f) (u.1 18 11) r0 r c := by
            rcases n8 with ⟨_, q⟩ | ⟨q, _⟩
            · exact q
            · omega
          obtain ⟨pp, e, o1, o2, o3, o4, o5⟩ := px_AR_step hAR hB
          obtain ⟨q', hq'⟩ := px_AR_sn o2
          have hls : px_ls pp := (px_ls_snoc (px_ls_snoc (by rw [hq'] at pl; exact pl)).1).2
          have hr1' := hr1 rfl
          have hh := dz_T_lt n9
          refine w_nm_48 (B := px_K b n (u.1 18 11).toNat = 2 ∨ px_K b n (u.1 18 11).toNat = 9) (Zt := fun w t => cx_I t ∧ ((w = -1 ∧ t.1 18 9 = s.1 18 9 ∧ ∀ x, ¬ (px_wt (px_SN b n) C M (px_app p r .leaf)).1 Γ x) ∨ ∃ A W B V, dz_N8 b n C M f p c r Γ ρ s k h i U x5 x6 x7 L r0 F pp e u t w A W B V)) uI (by omega) (Or.inr rfl) ?_ ?_ ?_ (fun q => ?_)
          · intro _ K k1 k2
            exact c_dz_beg hsL (d + 1) (by omega) b n u K uI uTK ulv (by omega) k1 (fun q => k2 (fun q' => by omega))
          · intro _ _ K k1
            exact h_arg hw1.symm (u.1 18 11) e a0 pp Γ ρ u K uI p0 pg rfl (by omega) o1 hls uE uS (px_lv_le hlv o5) (by omega) (fun z t x W B V c1 c2 c3 => k1 z t ⟨dz_G_I (c3 trivial).1, Or.inr ⟨x, W, B, V, fun _ => ⟨hNI, o2, o3, ⟨o4, o5⟩, ⟨c1, c2⟩, c3⟩⟩⟩) (fun q t t1 t2 => k1 _ t ⟨t1, Or.inl ⟨rfl, by omega, dz_no n2 n5 hq' o3 (fun A B q' _ => q A q')⟩⟩)
          · rintro w t ⟨tI, hz⟩
            have u11 := uI.fld 18 11 (by decide) rfl
            refine ⟨(2999 - 3 * x7).toNat, by omega, Or.inr (Or.inr (Or.inl ⟨rfl, rfl, x5, x6, x7, _, w, rfl, by omega, u11, tI, ?_, rfl⟩))⟩
            rcases hz with hz | ⟨A, W, B, V, hz⟩
            · exact Or.inl hz
            · exact Or.inr ⟨k, h, i, U, L, r0, F, pp, e, u, A, W, B, V, hz⟩
          · rcases q with q | q
            · omega
            · exact absurd hB q
        · have ha0 : a1 = 0 := by omega
          subst ha0
          have hrr : r = r0 ∧ c = u.1 18 11 := by
            rcases n8 with ⟨q, _⟩ | ⟨_, q⟩
            · omega
            · exact q
          obtain ⟨rfl, hcu⟩ := hrr
          refine w_nm_48 (B := True) (Zt := fun _ _ => False) uI (by omega) (Or.inl rfl) (fun q => absurd q (by decide)) (fun q => absurd q (by decide)) (fun _ _ q => q.elim) (fun _ => ⟨0, by omega, Or.inr (Or.inl ⟨rfl, x5, x6, x7, k, h, i, U, L, F, rfl, hNI, hcu.symm, rfl⟩)⟩)
      · have hrr : r = r0 ∧ c = u.1 18 11 := by
          rcases n8 with ⟨_, q⟩ | ⟨_, q⟩
          · exact px_AR_end q (fun z => hB (Or.inl z)) (fun z => hB (Or.inr z))
          · exact q
        obtain ⟨rfl, hcu⟩ := hrr
        refine w_nm_48 (B := px_K b n (u.1 18 11).toNat = 2 ∨ px_K b n (u.1 18 11).toNat = 9) (Zt := fun _ _ => False) uI (by omega) hqa (fun _ K k1 k2 => ?_) (fun _ q => absurd q hB) (fun _ _ q => q.elim) (fun _ => ⟨0, by omega, Or.inr (Or.inl ⟨rfl, x5, x6, x7, k, h, i, U, L, F, rfl, hNI, hcu.symm, rfl⟩)⟩)
        exact c_dz_beg hsL (d + 1) (by omega) b n u K uI uTK ulv (by omega) k1 (fun q => k2 (fun q' => by omega))
    · obtain ⟨⟨n1, n2, n3, n4⟩, ⟨n5, n6, n7⟩, n8, n9, n10, n11, ⟨n12, n13, n14⟩, n15, n16, n17, n18⟩ := hNI trivial
      have uI := dz_G_I n1
      have uE := dz_E_G hE n1
      have u9 : u.1 18 9 = s.1 18 9 := (n1 trivial).2.1 9 rfl
      have Lp := qx_at_pos L
      have hq6 : x6 = 0 ∨ x6 = 1 := by
        by_cases q : k = 3
        · rcases n11 q with q | q <;> omega
        · have := n10 q
          omega
      have hx5 := dx_rng n6 (uE trivial).2.2.2.1.2
      have hu8 := uI.fld 8 2 (by decide) rfl
      have uI' : cx_I (sx_uf u.1 18 12 x5, u.2) := cx_I_uf rfl rfl uI (by omega) (by omega)
      have g1 : dz_G (s.1 11 6) u (sx_uf u.1 18 12 x5, u.2) := dz_G_uf uI' (dz_G_T n1) rfl
      refine w_nm_153 (Zc := fun z t => x6 = 1 ∧ ∃ W, cx_I t ∧ cx_F [(11, 17)] (sx_uf u.1 18 12 x5, u.2) t ∧ dl_cp (s.1 11 6) L k h F (sx_uf u.1 18 12 x5, u.2) t z W) (c_dz_blame hsL (d + 1) (by omega)) uI hq6 (by omega) ?_ ?_ ?_
      · intro q t t1 t2
        refine hX (fun x hx => ?_) t t1 (by omega)
        have k3 : k = 3 := by
          by_cases z : k = 3
          · exact z
          · have := n10 z
            omega
        rcases n11 k3 with ⟨y1, _⟩ | ⟨_, y2⟩
        · omega
        · rcases hx with ⟨hx, _⟩ | ⟨_, o, k', u', hx, _, hp⟩
          · exact absurd hx Nat.one_ne_zero
          · obtain ⟨o1, _, _⟩ := px_hd_fun hx n2
            exact y2 (hp (by omega))
      · intro x61 K hK'
        exact c_dl_cp hsL 5 (by omega) (d + 1) (by omega) (s.1 11 6) L (s.1 11 6) x5 0 k h F (sx_uf u.1 18 12 x5, u.2) K uI' (by omega) (fun _ => n9 trivial) (dz_G_is g1 n6) ((dz_E_G uE g1) trivial).2.2.2.1.2 n7 (by omega) (by omega) (by show _ ≤ u.1 11 6; omega) (by show u.1 11 6 + _ ≤ _; omega) (by show u.1 11 8 + _ ≤ _; omega) (fun z t W t1 t2 t3 => hK' z t ⟨x61, W, t1, t2, t3⟩)
      · rintro z t ⟨x61, W, t1, t2, t3⟩
        obtain ⟨c1, c2, c3, ⟨c4, c5, c6⟩, c7, c8, c9⟩ := t3 trivial
        have c4' : t.1 11 6 + 2 ≤ u.1 11 6 + 2 * (qx_at L : Int) := c4
        have c6' : t.1 11 8 + 1 ≤ u.1 11 8 + (qx_at L : Int) := c6
        have g2 : dz_G (s.1 11 6) (sx_uf u.1 18 12 x5, u.2) t := dz_G_11 t1 t2 (dz_G_T g1) c3 ⟨c5, c7⟩
        have e11 : t.1 18 11 = u.1 18 11 := congrFun (t2.same 18 rfl).1 11
        have e12 : t.1 18 12 = x5 := (congrFun (t2.same 18 rfl).1 12).trans (px_us u.1 18 12 x5)
        have e8 : t.1 8 2 = u.1 8 2 := congrFun (t2.same 8 rfl).1 2
        have hpt : k = 3 → px_pt' (px_SN b n) Γ r := fun k3 => by
          rcases n11 k3 with ⟨_, y2⟩ | ⟨y1, _⟩
          · exact dz_pt_ok y2
          · omega
        refine hK z t L W (if a1 = 1 then 3 * (c - p) + 6 else 2 * (qx_at L : Int) - 1) (if a1 = 1 then 2 * (c - p) + 2 else (qx_at L : Int) - 1) (fun q => by rw [if_pos q, if_pos q]; omega) (fun q => by rw [if_neg (by omega), if_neg (by omega)]; omega) (fun _ => ⟨dz_G_t g2 (dz_G_t g1 n1), by omega, Or.inr ⟨Nat.one_ne_zero, k, i, U, n2, n5, hpt⟩, ?_, ⟨c1, c2⟩, ⟨dz_mt_app s5 s2 s6 c8 n5 n2 n3.1 (fun q => (n10 (by omega)).2.1), ?_⟩, ?_, ?_, by omega⟩)
        · rw [e12]
          exact dz_G_is g2 (dz_G_is g1 n6)
        · have gu : dz_G (s.1 11 6) u t := dz_G_t g2 g1
          have u8 : s.1 11 8 ≤ u.1 11 8 := ((n1 trivial).2.2.2.2.1).1
          have hρ : ∀ z ∈ ρ, z < ((sx_uf u.1 18 12 x5, u.2) : sx_S).1 11 8 := fun z hz => by
            have := s4 z hz
            show z < u.1 11 8
            omega
          obtain ⟨d1, d2, d3, d4⟩ := c9 trivial
          refine fun _ => ⟨?_, d4, fun AR hA => Or.inr ⟨Nat.one_ne_zero, k, i, U, h, n2, n3, ?_⟩⟩
          · refine d1 (s.1 11 8) u8 (fun k3 => ?_)
            exact ((n10 k3).2.2 trivial).1
          · by_cases k3 : k = 3
            · have x61' : dz_pt (px_SN b n) F r Γ ρ := by
                rcases n11 k3 with ⟨_, y2⟩ | ⟨y1, _⟩
                · exact y2
                · omega
              obtain ⟨ls, l1, l2, l3, l4⟩ := x61' trivial
              refine Or.inr ⟨k3, ls, l2, l4, ?_, ?_⟩
              · exact (px_qv_ty.2 n5 (px_pv_qv.2 l2)).2.1
              · have := d3 k3 AR ρ hA hρ
                rw [l1] at this
                exact this
            · have c := d2 k3 ρ hρ
              exact Or.inl ⟨k3, F, (vl_tm_mono (dl_TV_G gu)).2 (((n10 k3).2.2 trivial).2 AR (vl_c1_ar c k3 hA)), c⟩
        · by_cases q : a1 = 1
          · rw [if_pos q]
            omega
          · rw [if_neg q]
            have := n14 (by omega)
            omega
        · by_cases q : a1 = 1
          · rw [if_pos q]
            omega
          · rw [if_neg q]
            have := n14 (by omega)
            omega
    · subst ha1
      rcases hU with ⟨rfl, t2, t3⟩ | ⟨k, h, i, U, L, r0, F, pp, e, v, A, W, B, V, h8⟩
      · exact w_nm_80 (Af := 0) (Ag := 0) (c_dz_blame hsL (d + 1) (by omega)) uI r8 (by omega) (by omega) (fun _ => hX t3 u uI t2) (fun q => absurd q (by decide)) (fun q => absurd q (by decide)) (fun q => absurd q (by decide)) (fun q => absurd q (by decide))
      · obtain ⟨hNI, o2, o3, ⟨o4, o5⟩, ⟨c1, c2⟩, c3⟩ := h8 trivial
        obtain ⟨⟨n1, n2, n3, n4⟩, ⟨n5, n6, n7⟩, n8, n9, n10, n11, ⟨n12, n13, n14⟩, n15, n16, n17, n18⟩ := hNI trivial
        obtain ⟨b1, b2, b3, b4, ⟨b5, b6⟩, b7, b8, b9, b10⟩ := c3 trivial
        have vE := dz_E_G hE n1
        have uE := dz_E_G vE b1
        have u2 := (uE trivial).2.2.2.1.2
        have hx5 := dx_rng n6 (vE trivial).2.2.2.1.2
        have v8 := (dz_G_I n1).fld 8 2 (by decide) rfl
        have u8 := uI.fld 8 2 (by decide) rfl
        have u9 : u.1 18 9 = v.1 18 9 := (b1 trivial).2.1 9 rfl
        have v9 : v.1 18 9 = s.1 18 9 := (n1 trivial).2.1 9 rfl
        have hr12 := dx_rng b4 u2
        have hLt := dz_G_is b1 n6
        have hz := dz_T_z b6 b5
        have hu6 := uI.fld 11 6 (by decide) rfl
        have ra9 := uI.arr 9 (by decide) rfl x5.toNat
        obtain ⟨q', hq'⟩ := px_AR_sn o2
        refine w_nm_80 (Af := if 2 ≤ x5 ∧ x5 < u.1 8 2 then u.2.1 9 x5.toNat else -1) (Ag := if 2 ≤ x5 ∧ x5 < u.1 8 2 then u.2.1 10 x5.toNat else -1) (c_dz_blame hsL (d + 1) (by omega)) uI r8 ?_ (by omega) (fun q => by omega) ?_ ?_ ?_ ?_
        · by_cases q : 2 ≤ x5 ∧ x5 < u.1 8 2
          · rw [if_pos q]
            exact ra9
          · rw [if_neg q]
            omega
        · intro _ K hK'
          refine c_dz_from hsL (d + 1) (by omega) x5 u K uI (by omega) (fun z z1 z2 => ?_)
          by_cases q : 2 ≤ x5 ∧ x5 < u.1 8 2
          · rw [if_pos q] at hK'
            rw [z1 q.1 q.2]
            exact hK'
          · rw [if_neg q] at hK'
            rw [z2 (by omega)]
            exact hK'
        · intro _ _ K hK'
          refine c_dz_to hsL (d + 1) (by omega) x5 u K uI (by omega) (fun z z1 z2 => ?_)
          by_cases q : 2 ≤ x5 ∧ x5 < u.1 8 2
          · rw [if_pos q] at hK'
            rw [z1 q.1 q.2]
            exact hK'
          · rw [if_neg q] at hK'
            rw [z2 (by omega)]
            exact hK'
        · intro _ hAf t t1 t2
          refine hX (dz_no n2 n5 hq' o3 (fun A' B' q1 q2 => hAf ?_)) t t1 (by omega)
          have eA := px_wt_fun.1 q1 b3
          subst eA
          rw [q2] at hLt
          obtain ⟨_, hLt⟩ := hLt
          rcases hLt with ⟨hLt, _⟩ | ⟨_, l1, l2, l3⟩
          · exact absurd hLt (by decide)
          · rw [if_pos l1]
            exact dx_inj (dz_G_T b1) l2 b4
        · intro _ hAf
          have q : 2 ≤ x5 ∧ x5 < u.1 8 2 := by
            by_cases q : 2 ≤ x5 ∧ x5 < u.1 8 2
            · exact q
            · rw [if_neg q] at hAf
              omega
          rw [if_pos q] at hAf
          rw [if_pos q]
          obtain ⟨T, w', l1, l2, l3⟩ := dz_arr hLt q.1 q.2
          have eT : T = A := by
            rw [hAf] at l2
            exact qx_ty_fun l2 b4
          subst eT
          have hq6 : x6 = 0 ∨ x6 = 1 := by
            by_cases q : k = 3
            · rcases n11 q with q | q <;> omega
            · have := n10 q
              omega
          exact ⟨(2998 - 3 * x7).toNat, by omega, Or.inr (Or.inr (Or.inr ⟨rfl, rfl, x5, _, x6, x7, x9, rfl, r7, hq6, ⟨k, h, i, U, L, r0, F, pp, e, v, T, W, B, V, w', h8, l1, l3⟩, rfl⟩))⟩
    · subst ha1
      obtain ⟨hNI, o2, o3, ⟨o4, o5⟩, ⟨c1, c2⟩, c3⟩ := h8 trivial
      obtain ⟨⟨n1, n2, n3, n4⟩, ⟨n5, n6, n7⟩, n8, n9, n10, n11, ⟨n12, n13, n14⟩, n15, n16, n17, n18⟩ := hNI trivial
      obtain ⟨b1, b2, b3, b4, ⟨b5, b6⟩, b7, b8, b9, b10⟩ := c3 trivial
      have uI := dz_G_I b1
      have hh := dz_T_lt n9
      have hTt := dz_T_fr n9 (b1 trivial).2.2.2.1 hh
      have hge := (b6 trivial).2.2.2.1
      have t6 : v.1 11 6 ≤ u.1 11 6 := ((b1 trivial).2.2.2.1 trivial).1
      have v6 : s.1 11 6 ≤ v.1 11 6 := ((n1 trivial).2.2.2.1 trivial).1
      have hnx := (b6 trivial).2.2.2.2
      have hr1' := hr1 rfl
      have eL : qx_at L = qx_at A + qx_at w' := by rw [l1]; rfl
      have wp := qx_at_pos w'
      have Ap := qx_at_pos A
      obtain ⟨pg0, pq0, pf0, hpp⟩ := o3
      refine w_nm_124 (Zg := fun y t => ∀ x6', (y = 1 ∧ x6 = 1 ∧ x6' = 1 ∨ (y = 0 ∨ x6 = 0) ∧ x6' = 0) → ∃ F' w, dz_NI b n C M f p c r Γ ρ s k h i U 1 x5 x6' (x7 + 1) w (px_snoc r0 pp) F' t) r7 r6 ?_ ?_
      · intro K hK'
        refine c_dz_gives hsL (d + 1) (by omega) (s.1 11 6) (s.1 11 6) x9 k h F W u K uI (by omega) hTt (dz_T_lo b6 v6) b5 (fun j hj hj' => ?_) (by omega) (by omega) (fun k3 t v1 v2 ⟨v3, v4, v5⟩ v6' v7 => ?_) (fun k3 z hz => ⟨fun hz' => ?_, fun z0 hzn t v1 v2 ⟨v3, v4, v5⟩ v6' v7 => ?_⟩)
        · have q1 := hh j hj
          have q2 := hge j hj'
          omega
        · refine hK' 1 t (Or.inr rfl) (fun x6' hx6 => ?_)
          obtain ⟨y1, y2, y3⟩ := n10 k3
          have e6 : x6' = 1 := by omega
          subst e6
          have gv : dz_G (v.1 11 6) v u := b1
          have u8' : v.1 11 8 ≤ u.1 11 8 := ((b1 trivial).2.2.2.2.1).1
          have v8' : s.1 11 8 ≤ v.1 11 8 := ((n1 trivial).2.2.2.2.1).1
          have tu : ∀ x T, dl_TV u x T → dl_TV t x T := dl_TV_mono v2 (by rw [v4]; exact Int.le_refl _) (fun j _ => by rw [v5])
          exact ⟨_, w', dz_NI_s hNI c3 ⟨pg0, pq0, pf0, hpp⟩ o2 o4 l1 l3 c1 c2 v1 v2 (by omega) ⟨v4, v5⟩ v7 v6' (by rw [rf_len_snoc, rf_nx_len hnx b5]; exact Nat.le_refl _) (fun _ => ⟨rfl, by rw [hpp]; exact dz_mr_snoc hnx b5 y2 (by rw [← hpp]; exact b7.1), by rw [hpp]; exact dl_mr_snoc v8' l1 y3 (by rw [← hpp]; exact b7.2) u8' v4 (fun x T q => tu x T (dl_TV_G gv x T q)) tu⟩) (fun q => absurd q k3)⟩
        · refine hK' 0 u (Or.inl rfl) (fun x6' hx6 => ?_)
          have e6 : x6' = 0 := by omega
          subst e6
          refine ⟨F, w', dz_NI_s hNI c3 ⟨pg0, pq0, pf0, hpp⟩ o2 o4 l1 l3 c1 c2 uI (cx_F_refl _ _) (by omega) ⟨rfl, rfl⟩ (dz_fr_refl _ _) hTt (by omega) (fun q => absurd k3 q) (fun _ => Or.inr ⟨rfl, ?_⟩)⟩
          rw [hpp]
          rcases n11 k3 with ⟨y1, y2⟩ | ⟨y1, y2⟩
          · rcases dz_mt_pv s6 b3 b7.1 hz with ⟨g1, g2⟩ | ⟨g1, l, g2, g3, g4⟩
            · exact px_pt_no (by rw [← hpp]; exact g2)
            · have hin : z ∈ dz_hs F := by
                rcases hz' with q | q
                · omega
                · exact q
              exact (dz_pt_snoc (j := 0) s5 s2 y2 g2 g3 (by rw [← hpp]; exact g4)).1 hin
          · exact px_pt_up y2
        · refine hK' 1 t (Or.inr rfl) (fun x6' hx6 => ?_)
          refine ⟨_, w', dz_NI_s hNI c3 ⟨pg0, pq0, pf0, hpp⟩ o2 o4 l1 l3 c1 c2 v1 v2 (by omega) ⟨v4, v5⟩ v7 v6' (by rw [rf_len_snoc]; exact Nat.le_refl _) (fun q => absurd k3 q) (fun _ => ?_)⟩
          rw [hpp]
          rcases n11 k3 with ⟨y1, y2⟩ | ⟨y1, y2⟩
          · rcases dz_mt_pv s6 b3 b7.1 hz with ⟨g1, g2⟩ | ⟨g1, l, g2, g3, g4⟩
            · omega
            · exact Or.inl ⟨by omega, (dz_pt_snoc s5 s2 y2 g2 g3 (by rw [← hpp]; exact g4)).2 hzn⟩
          · exact Or.inr ⟨by omega, px_pt_up y2⟩
      · rintro t x6' ⟨y, hz, hx6⟩
        obtain ⟨F', w, hz⟩ := hz x6' hx6
        exact ⟨(3000 - 3 * (x7 + 1)).toNat, by omega, Or.inl ⟨rfl, x5, x6', x7 + 1, k, h, i, U, w, _, F', rfl, hz, rfl⟩⟩
