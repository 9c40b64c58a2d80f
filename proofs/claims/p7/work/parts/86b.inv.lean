/-! ===== the law of fresh: what holds between its calls ===== -/
theorem we_Y_k {Ω : Type} {E0 : we_E Ω} (hL : we_L E0) {s t : sx_S} (hI : cx_I t) (hF : cx_F [(0, 67)] s t) (hf : rf_f [1] s t) (h : we_Y E0 s) : we_Y E0 t := fun _ => by
  obtain ⟨g, ht, th, AR, rk, hS⟩ := h trivial
  have A : ∀ p, cx_outb [(0, 67)] p = true → t.2.1 p = s.2.1 p := fun p hp => (hF.same p hp).2
  have e9 := hf 9 rfl
  have e42 := hf 42 rfl
  have e50 := hf 50 rfl
  have e56 := hf 56 rfl
  have e58 := hf 58 rfl
  have e61 := hf 61 rfl
  have e64 := hf 64 rfl
  have e70 := hf 70 rfl
  have hE : rf_EX (s.1 66 71) (s.1 66 58) s t := ⟨⟨⟨e9, A 72 rfl, A 73 rfl, A 96 rfl, e42⟩, by omega, by omega, by omega, by omega, by omega⟩, fun j => ⟨fun _ => ⟨congrFun (A 100 rfl) j, congrFun (A 101 rfl) j, congrFun (A 102 rfl) j, congrFun (A 103 rfl) j, congrFun (A 104 rfl) j⟩, fun _ => congrFun (A 105 rfl) j, fun _ => congrFun (A 106 rfl) j, fun _ => ⟨congrFun (A 108 rfl) j, congrFun (A 109 rfl) j, fun _ => ⟨congrFun (A 111 rfl) j, congrFun (A 112 rfl) j, congrFun (A 113 rfl) j, congrFun (A 114 rfl) j⟩⟩, fun _ => congrFun (A 110 rfl) j, fun _ => ⟨congrFun (A 115 rfl) j, congrFun (A 116 rfl) j, congrFun (A 117 rfl) j⟩⟩⟩
  have hN : rf_NC s t := ⟨e61, fun j _ => congrFun (A 111 rfl) j⟩
  have hO : rf_OD t := rf_OD_same (hS trivial).1.1.2.2.2.2.2 e61 (hf 83 rfl) (hf 79 rfl) (fun p hp => by
    rcases hp with rfl | rfl | rfl | rfl
    · exact A 108 rfl
    · exact A 118 rfl
    · exact A 120 rfl
    · exact A 121 rfl)
  refine ⟨g, ht, th, AR, rk, we_S_up (show we_L (E0.1, E0.2.1, ht, th, AR, rk) from hL) hI hE hN hO (fun k hk => ?_) (fun p h1 h2 => ?_) ?_ hS⟩
  · rcases hk with rfl | rfl | rfl | rfl | rfl | rfl | rfl | rfl | rfl <;> exact hf _ rfl
  · exact ((hF p).1 (fun q hq => by
      simp only [List.mem_cons, List.not_mem_nil, or_false] at hq
      rcases hq with rfl
      dsimp only
      omega)).2
  · refine we_N_same (hf 79 rfl) e61 (fun p hp => ?_) (hS trivial).2.2.1
    rcases hp with rfl | rfl | rfl | rfl
    · exact A 108 rfl
    · exact A 118 rfl
    · exact A 120 rfl
    · exact A 121 rfl
theorem we_Y_d {Ω : Type} {E0 : we_E Ω} (hL : we_L E0) {V : List (Nat × Nat)} {s t : sx_S} (hI : cx_I t) (hF : cx_F V s t) (hV : cx_le V [(0, 65)] = true) (h : we_Y E0 s) : we_Y E0 t := by
  have hF1 : cx_F [(0, 65)] s t := cx_F_step hF hV (cx_F_refl _ _)
  exact we_Y_k hL hI (cx_F_step hF1 rfl (cx_F_refl _ _)) (fun k _ => by rw [(hF1.same 66 rfl).1]) h
def vy_T (s : sx_S) : Prop := True → ∃ (b : Nat → Int) (n : Int) (l : List vl_I), vk_LD b n l (rf_l0 s) ∧ (∃ (TV : Int → qx_T → Prop) (AR : Nat → List Int) (tl : vw_L), vl_tx (px_SN b n) TV AR l [] [] tl) ∧ ((s.1 0 3 = -1 ∧ dw_LD b n l s ∧ s.1 66 78 = 0) ∨ (s.1 0 3 = 0 ∧ vl_sat (px_SN b n) l ∧ wy_D (px_SN b n) l (s.1 55 8) ∧ s.1 66 78 ≠ 0 ∧ we_Y wy_E0 s ∧ wy_D (px_SN b n) l (s.1 66 79)) ∨ (s.1 0 3 = 1 ∧ ¬ vl_sat (px_SN b n) l ∧ s.1 66 78 = 0))
def vy_W (s : sx_S) : Prop := s.1 0 2 = s.1 66 37 ∧ (s.1 0 2 ≠ 0 → vy_T s) ∧ (s.1 0 2 = 0 → s.1 66 78 = 0)
/-- a call that leaves it -/
def vy_K (s t : sx_S) : Prop := True → vz_K s t ∧ (t.1 55 8 = s.1 55 8 ∧ t.1 66 78 = s.1 66 78 ∧ (s.1 66 78 ≠ 0 → t.1 66 79 = s.1 66 79)) ∧ (s.1 66 78 ≠ 0 → we_Y wy_E0 s → we_Y wy_E0 t)
theorem vy_K_0 (s : sx_S) : vy_K s s := fun _ => ⟨vz_K_0 s, ⟨rfl, rfl, fun _ => rfl⟩, fun _ h => h⟩
theorem vy_K_t {s t u : sx_S} (h2 : vy_K t u) (h1 : vy_K s t) : vy_K s u := fun _ => by
  obtain ⟨a1, ⟨a2, a3, a4⟩, a5⟩ := h1 trivial
  obtain ⟨b1, ⟨b2, b3, b4⟩, b5⟩ := h2 trivial
  exact ⟨vz_K_t b1 a1, ⟨b2.trans a2, b3.trans a3, fun h => (b4 (by rw [a3]; exact h)).trans (a4 h)⟩, fun h g => b5 (by rw [a3]; exact h) (a5 h g)⟩
theorem vy_W_k {s t : sx_S} (h : vy_W s) (k : vy_K s t) : vy_W t := by
  obtain ⟨h1, h2, h3⟩ := h
  obtain ⟨kz, ⟨k6, k7, k8⟩, k9⟩ := k trivial
  obtain ⟨⟨k1, k2, k3⟩, k4, k5⟩ := kz trivial
  refine ⟨by omega, fun q _ => ?_, fun q => by rw [k7]; exact h3 (by omega)⟩
  obtain ⟨b, n, l, g1, g2, g3⟩ := h2 (by omega) trivial
  refine ⟨b, n, l, k5 (by omega) b n l g1, g2, ?_⟩
  rw [k2, k6, k7]
  rcases g3 with ⟨q1, q2, q3⟩ | ⟨q1, q2, q3, q4, q5, q6⟩ | q2
  · exact Or.inl ⟨q1, dw_LD_c k4 q2, q3⟩
  · refine Or.inr (Or.inl ⟨q1, q2, q3, q4, k9 q4 q5, ?_⟩)
    rw [k8 q4]
    exact q6
  · exact Or.inr (Or.inr q2)
theorem vy_W_Y {s : sx_S} (h : vy_W s) (h78 : s.1 66 78 ≠ 0) : we_Y wy_E0 s := by
  obtain ⟨h1, h2, h3⟩ := h
  by_cases c : s.1 0 2 = 0
  · exact absurd (h3 c) h78
  · obtain ⟨b, n, l, _, _, g3⟩ := h2 c trivial
    rcases g3 with ⟨_, _, q⟩ | ⟨_, _, _, _, q, _⟩ | ⟨_, _, q⟩
    · exact absurd q h78
    · exact q
    · exact absurd q h78
theorem vy_Y_ex {s : sx_S} (h : vy_W s) : ∃ (E : we_E Unit) (g : rf_Gh), (we_L E ∧ ∀ sL sx, we_K wy_E0 sL sx → we_K E sL sx) ∧ (∀ p : Nat → Int, E.2.1.1 0 p ()) ∧ (s.1 66 78 ≠ 0 → we_S E s g) ∧ ∀ t, we_S E t g → we_Y wy_E0 t := by
  by_cases c : s.1 66 78 ≠ 0
  · obtain ⟨g, ht, th, AR, rk, hS⟩ := vy_W_Y h c trivial
    exact ⟨(wy_E0.1, wy_E0.2.1, ht, th, AR, rk), g, ⟨wy_L0, fun _ _ h => h⟩, fun _ => trivial, fun _ => hS, fun t ht' => fun _ => ⟨g, ht, th, AR, rk, ht'⟩⟩
  · exact ⟨wy_E0, rf_g0 s, ⟨wy_L0, fun _ _ h => h⟩, fun _ => trivial, fun q => absurd q c, fun t ht' => fun _ => ⟨rf_g0 s, _, _, _, _, ht'⟩⟩
theorem vy_K_w {s t : sx_S} (hI : cx_I t) (h : cx_F [(29, 37), (55, 65)] s t) (h8 : t.1 55 8 = s.1 55 8) : vy_K s t := fun _ => ⟨vz_K_w h, ⟨h8, by rw [(h.same 66 rfl).1], fun _ => by rw [(h.same 66 rfl).1]⟩, fun _ g => we_Y_d wy_L0 hI h rfl g⟩
theorem vy_K_d {s t : sx_S} (hI : cx_I t) (h : cx_F [(0, 1)] s t) (h2 : t.1 0 2 = s.1 0 2) (h3 : t.1 0 3 = s.1 0 3) : vy_K s t := fun _ => ⟨vz_K_d h h2 h3, ⟨by rw [(h.same 55 rfl).1], by rw [(h.same 66 rfl).1], fun _ => by rw [(h.same 66 rfl).1]⟩, fun _ g => we_Y_d wy_L0 hI h rfl g⟩
theorem vy_K_f {s t : sx_S} (hI : cx_I t) (h : cx_F [(66, 67)] s t) (hf : rf_f [1] s t) : vy_K s t := fun _ => ⟨vz_K_f h hf, ⟨by rw [(h.same 55 rfl).1], hf 78 rfl, fun _ => hf 79 rfl⟩, fun _ g => we_Y_k wy_L0 hI (cx_F_step h rfl (cx_F_refl _ _)) hf g⟩
theorem vy_K_p {E : we_E Unit} {g : rf_Gh} {s t : sx_S} (h : rf_BC s) (hS : s.1 66 78 ≠ 0 → we_S E s g) (hY : ∀ t, we_S E t g → we_Y wy_E0 t) (p : t = s ∨ (s.1 66 78 ≠ 0 ∧ rf_PP s t ∧ we_S E t g)) : vy_K s t := by
  rcases p with rfl | ⟨p1, p2, p3⟩
  · exact vy_K_0 _
  · intro _
    have kz := vz_K_p h (Or.inr ⟨p1, p2⟩)
    obtain ⟨_, q2, q3⟩ := p2
    refine ⟨kz, ⟨by rw [(q2.same 55 rfl).1], q3 78 rfl, fun _ => ?_⟩, fun _ _ => hY t p3⟩
    have a1 := ((hS p1 trivial).2.2.1 trivial).1
    have a2 := ((p3 trivial).2.2.1 trivial).1
    rw [a1, a2, q3 45 rfl]
