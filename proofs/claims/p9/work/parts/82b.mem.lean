/-! ===== the reference: what is known while it writes ===== -/
/-- papers, digits, names; what the paper is, when it is full, names in memory; types of ARGs; values, rows, ranks -/
abbrev we_E (Ω : Type) : Type := ((Int → Ω → Ω) × (Int → List Int) × (Int → List Int)) × ((Int → (Nat → Int) → Ω → Prop) × (Ω → Prop) × (sx_S → Prop)) × (Int → List rf_T) × (Int → rf_N) × (Nat → List Int) × (Int → Nat)
section
variable {Ω : Type}
def we_W (E : we_E Ω) (v : rf_N) : (Int → we_A Ω → we_A Ω) × (Int → we_A Ω → we_A Ω) := we_w E.1.1 E.1.2.1 E.1.2.2 (we_hf E.1.1 E.1.2.1 E.1.2.2 E.2.2.1) v
def we_W0 (E : we_E Ω) (v : rf_N) : (Int → we_A Ω → we_A Ω) × (Int → we_A Ω → we_A Ω) := we_w E.1.1 E.1.2.1 E.1.2.2 (fun _ _ _ w => w) v
def we_b (E : we_E Ω) (l : List Int) (w : we_A Ω) : we_A Ω := we_bs E.1.1 l w
def we_Sp (E : we_E Ω) (s : sx_S) (o : Ω) : Prop := E.2.1.1 (s.1 66 86) (s.2.1 122) o
def we_sa (E : we_E Ω) (o : Ω) : Prop := E.2.1.2.1 o
def we_Rn (E : we_E Ω) (s : sx_S) : Prop := E.2.1.2.2 s
def we_th (E : we_E Ω) : Int → rf_N := E.2.2.2.1
def we_AR (E : we_E Ω) : Nat → List Int := E.2.2.2.2.1
def we_rk (E : we_E Ω) : Int → Nat := E.2.2.2.2.2
/-- what papers keep to -/
def we_L (E : we_E Ω) : Prop := True → (∀ c o, we_sa E o → we_sa E (E.1.1 c o)) ∧ (∀ a p c o, we_sa E o → E.2.1.1 a p o → E.2.1.1 a p (E.1.1 c o)) ∧ (∀ a p o, E.2.1.1 a p o → 4000 < a → we_sa E o) ∧ ∀ s t : sx_S, (∀ p, 68 ≤ p → p ≤ 99 → t.2.1 p = s.2.1 p) → t.1 66 3 = s.1 66 3 → t.1 66 42 = s.1 66 42 → we_Rn E s → we_Rn E t
/-- the bytes l were put -/
def we_PT (E : we_E Ω) (s t : sx_S) (l : List Int) : Prop := cx_I t ∧ cx_F [(66, 66), (122, 122)] s t ∧ rf_f [86] s t ∧ ∀ o, we_Sp E s o → we_Sp E t (l.foldl (fun o c => E.1.1 c o) o)
/-- the methods that put -/
def we_K (E : we_E Ω) (sL : Nat) (sx : Nat → Int32) : Prop := True → (∀ d : Nat, 2 ≤ d → ∀ (a0 : Int) (s : sx_S) (K : Int → sx_S → Prop), cx_I s → (-2147483648 ≤ a0 ∧ a0 ≤ 2147483647) → (∀ z t, we_PT E s t [a0] → K z t) → sx_C sL sx d 203 [.inr (.inl 66), .inl a0] s K) ∧ (∀ d : Nat, 3 ≤ d → ∀ (a0 a1 : Int) (s : sx_S) (K : Int → sx_S → Prop), cx_I s → (0 ≤ a0 ∧ a0 ≤ 255) → (-2147483648 ≤ a1 ∧ a1 ≤ 2147483647) → (∀ z t, we_PT E s t (a0 :: E.1.2.1 a1) → K z t) → sx_C sL sx d 204 [.inr (.inl 66), .inl a0, .inl a1] s K) ∧ (∀ d : Nat, 3 ≤ d → ∀ (k u : Int) (s : sx_S) (K : Int → sx_S → Prop), cx_I s → we_Rn E s → (0 ≤ k ∧ k < s.1 66 42) → u = s.2.1 95 k.toNat → (0 ≤ u ∧ u ≤ 241) → (∀ z t, we_PT E s t (E.1.2.2 k) → K z t) → sx_C sL sx d 205 [.inr (.inl 66), .inl u] s K) ∧ ∀ d : Nat, 6 ≤ d → ∀ (a0 a1 : Int) (s : sx_S) (K : Int → sx_S → Prop), cx_I s → (0 ≤ a0 ∧ a0 ≤ 399999) → (-2147483648 ≤ a1 ∧ a1 ≤ 2147483647) → (∀ (z : Int) (t : sx_S), cx_I t → cx_F [(66, 66), (107, 107), (122, 122)] s t → rf_f [86] s t → (∀ j : Nat, t.2.1 107 j = if j = a0.toNat then a1 else s.2.1 107 j) → (∀ o, we_Sp E s o → we_Sp E t ((92 :: 120 :: (E.1.2.1 a1 ++ [46])).foldl (fun o c => E.1.1 c o) o)) → K z t) → sx_C sL sx d 206 [.inr (.inl 66), .inl a0, .inl a1] s K
/-- the depth at which a variable was bound; those still to be made -/
def we_D (s : sx_S) (dp v : Int) : Int := if v < s.1 66 58 then s.2.1 107 v.toNat else dp + (v - s.1 66 58)
def we_V (E : we_E Ω) (s : sx_S) (A : rf_N) (y : rf_Y) (dp : Int) : rf_N := vx_re (we_D s dp) (vr_V (we_th E) (we_AR E) A y (s.1 66 58))
def we_X (E : we_E Ω) (s : sx_S) (f : rf_N) (y : rf_Y) (dp : Int) : rf_N := vx_re (we_D s dp) (vr_X (we_th E) (we_AR E) f y (s.1 66 58))
/-- the solved unknowns, the values, the ranks, the types -/
def we_G (E : we_E Ω) (s : sx_S) (g : rf_Gh) : Prop := True → (vr_G s g (we_AR E) ∧ vx_So (vr_S s g (we_AR E)) (we_th E)) ∧ (∀ m, 0 ≤ m → m < s.1 66 61 → s.2.1 111 m.toNat = 0 → we_th E m = vx_gn (vr_ar s) m) ∧ (∀ m, 0 ≤ m → m < s.1 66 61 → wz_ok (s.1 66 61) (vr_ar s) (we_th E m)) ∧ (∀ u m, 0 ≤ u → u < s.1 66 61 → s.2.1 111 u.toNat ≠ 0 → vx_mt m (vr_1 (g.1 u)) → we_rk E m < we_rk E u) ∧ (∀ (m : Int) (q : Nat), 0 ≤ m → m < s.1 66 61 → (q : Int) < rf_aa s m → rf_py s m q ((E.2.2.1 (-1 - m)).getD q .leaf)) ∧ 1 ≤ s.1 66 58 ∧ we_Rn E s
theorem we_ar {nb ib : Int} {s t : sx_S} (hE : rf_EX nb ib s t) (hN : rf_NC s t) : vr_ar t = vr_ar s := by
  funext u
  unfold vr_ar
  rw [hN.1]
  by_cases c : 0 ≤ u ∧ u < s.1 66 61
  · rw [if_pos c, if_pos c, hE.aa c.1 c.2]
  · rw [if_neg c, if_neg c]
theorem we_G_up {E : we_E Ω} (hL : we_L E) {nb ib : Int} {s t : sx_S} {g : rf_Gh} (hI : cx_I s) (hM : rf_MI nb ib s g) (hE : rf_EX nb ib s t) (hN : rf_NC s t) (h58 : s.1 66 58 ≤ t.1 66 58) (hR : ∀ p, 68 ≤ p → p ≤ 99 → t.2.1 p = s.2.1 p) (e3 : t.1 66 3 = s.1 66 3) (h : we_G E s g) : we_G E t g := fun _ => by
  obtain ⟨⟨h1, h2⟩, h3, h4, h5, h6, h7, h8⟩ := h trivial
  have e61 := hN.1
  have ea := we_ar hE hN
  refine ⟨⟨vr_G_up hE (rf_EG_refl s g) hN (fun _ _ => rfl) h1, (vr_So_NC hI hE (rf_EG_refl s g) hN hM h1 (fun _ _ => rfl)).mpr h2⟩, fun m m0 m1 hs => ?_, fun m m0 m1 => ?_, fun u m u0 u1 hs => ?_, fun m q m0 m1 hq => ?_, by omega, (hL trivial).2.2.2 s t hR e3 hE.1.1.2.2.2.2 h8⟩
  · rw [ea]
    exact h3 m m0 (by omega) (by rw [← hN.2 m.toNat (by omega)]; exact hs)
  · rw [ea, e61]
    exact h4 m m0 (by omega)
  · exact h5 u m u0 (by omega) (by rw [← hN.2 u.toNat (by omega)]; exact hs)
  · rw [hE.aa m0 (by omega)] at hq
    exact hE.pt m0 (by omega) (h6 m q m0 (by omega) hq)
theorem we_G_WF {E : we_E Ω} (hL : we_L E) {aM : Bool} {nb ib : Int} {s t : sx_S} {g : rf_Gh} (hW : rf_WW aM nb ib s g) (hF : rf_WF s t) (h : we_G E s g) : we_G E t g := by
  obtain ⟨⟨hI, hM, hnb, hib, _⟩, _⟩ := hW
  obtain ⟨hE, hN⟩ := rf_WF_EX hF
  refine we_G_up hL hI hM (rf_EX_le hE hnb hib) hN hF.2.2.1 (fun p h1 h2 => (hF.1.1 p).1 (fun q hq => ?_) |>.2) (hF.1.2.1 3 rfl) h
  simp only [List.mem_cons, List.not_mem_nil, or_false] at hq
  rcases hq with rfl | rfl | rfl | rfl <;> (dsimp only; omega)
/-- the numbers of the open unknowns, and the order of their ARGs -/
def we_N (s : sx_S) (a : List (Int × List Int)) : Prop := True → s.1 66 79 = (a.length : Int) ∧ (a.map Prod.fst).Nodup ∧ ∀ m : Int, 0 ≤ m → m < s.1 66 61 → (s.2.1 118 m.toNat = -1 ∧ -1 - m ∉ a.map Prod.fst) ∨ ∃ (i : Nat) (xs : List Int), a[i]? = some (-1 - m, xs) ∧ s.2.1 118 m.toNat = (i : Int) ∧ (xs.length : Int) = rf_aa s m ∧ (∀ p q : Nat, p < xs.length → q < xs.length → xs.getD p (-1) = xs.getD q (-1) → p = q) ∧ ∀ k : Nat, k < xs.length → s.2.1 121 (s.2.1 120 m.toNat + ((rf_rnk (fun i => xs.getD i (-1)) xs.length k : Nat) : Int)).toNat = (k : Int)
theorem we_N_same {s t : sx_S} {a : List (Int × List Int)} (e79 : t.1 66 79 = s.1 66 79) (e61 : t.1 66 61 = s.1 66 61) (ea : ∀ p, p = 108 ∨ p = 118 ∨ p = 120 ∨ p = 121 → t.2.1 p = s.2.1 p) (h : we_N s a) : we_N t a := fun _ => by
  have h' := h trivial
  unfold rf_aa at h' ⊢
  rw [e79, e61, ea 108 (Or.inl rfl), ea 118 (Or.inr (Or.inl rfl)), ea 120 (Or.inr (Or.inr (Or.inl rfl))), ea 121 (Or.inr (Or.inr (Or.inr rfl)))]
  exact h'
/-- numbering: what was seen is numbered, or under way; writing: all is numbered -/
def we_M (E : we_E Ω) (u : sx_S) (w Z : we_A Ω) (v T : rf_N) (P P' : Int → Prop) : Prop := True → (u.1 66 89 = 0 → ∀ x, wz_oc x v → x ∈ w.1.map Prod.fst) ∧ (u.1 66 89 ≠ 0 → we_sa E w.2 ∧ (∀ m, P' m → vx_bl (we_rk E) (we_rk E m) T ∧ (P m ∨ ∀ x, wz_oc x (we_th E m) → x ∈ Z.1.map Prod.fst)) ∧ ∀ m, 0 ≤ m → m < u.1 66 61 → u.2.1 119 m.toNat ≠ 0 → P' m ∨ ∀ x, wz_oc x (we_th E m) → x ∈ w.1.map Prod.fst)
/-- w is there, and what k makes of it is Z -/
def we_J (E : we_E Ω) (Z : we_A Ω) (P : Int → Prop) (u : sx_S) (v T : rf_N) (k : we_A Ω → we_A Ω) : Prop := ∃ (w : we_A Ω) (P' : Int → Prop), (we_N u w.1 ∧ we_Sp E u w.2) ∧ k w = Z ∧ we_M E u w Z v T P P'
/-- Z is there -/
def we_Z (E : we_E Ω) (Z : we_A Ω) (P : Int → Prop) (t : sx_S) : Prop := True → (we_N t Z.1 ∧ we_Sp E t Z.2) ∧ (t.1 66 89 ≠ 0 → we_sa E Z.2 ∧ ∀ m, 0 ≤ m → m < t.1 66 61 → t.2.1 119 m.toNat ≠ 0 → P m ∨ ∀ x, wz_oc x (we_th E m) → x ∈ Z.1.map Prod.fst)
theorem we_J_Z {E : we_E Ω} {Z : we_A Ω} {P : Int → Prop} {u : sx_S} {v T : rf_N} {k : we_A Ω → we_A Ω} (hk : ∀ w, k w = w) (h : we_J E Z P u v T k) : we_Z E Z P u := fun _ => by
  obtain ⟨w, P', h1, h2, h3⟩ := h
  rw [hk] at h2
  subst h2
  refine ⟨h1, fun c => ?_⟩
  obtain ⟨a, b, d⟩ := (h3 trivial).2 c
  exact ⟨a, fun m m0 m1 hs => (d m m0 m1 hs).elim (fun z => (b m z).2) Or.inr⟩
theorem we_J_le {E : we_E Ω} {Z : we_A Ω} {P : Int → Prop} {u : sx_S} {v T v' T' : rf_N} {k : we_A Ω → we_A Ω} (hv : ∀ x, wz_oc x v' → wz_oc x v) (hT : ∀ m, vx_mt m T' → vx_mt m T) (h : we_J E Z P u v T k) : we_J E Z P u v' T' k := by
  obtain ⟨w, P', h1, h2, h3⟩ := h
  obtain ⟨a, b⟩ := h3 trivial
  exact ⟨w, P', h1, h2, fun _ => ⟨fun c x hx => a c x (hv x hx), fun c => ⟨(b c).1, fun m hm => ⟨fun x hx => ((b c).2.1 m hm).1 x (hT x hx), ((b c).2.1 m hm).2⟩, (b c).2.2⟩⟩⟩
theorem we_J_k {E : we_E Ω} {Z : we_A Ω} {P : Int → Prop} {u : sx_S} {v T : rf_N} {k k' : we_A Ω → we_A Ω} (hk : ∀ w, k w = k' w) (h : we_J E Z P u v T k) : we_J E Z P u v T k' := by
  obtain ⟨w, P', h1, h2, h3⟩ := h
  exact ⟨w, P', h1, by rw [← hk]; exact h2, h3⟩
/-- nothing of it has changed -/
theorem we_J_same {E : we_E Ω} {Z : we_A Ω} {P : Int → Prop} {u t : sx_S} {v T : rf_N} {k : we_A Ω → we_A Ω} (ef : ∀ k, k = 61 ∨ k = 79 ∨ k = 86 ∨ k = 89 → t.1 66 k = u.1 66 k) (ea : ∀ p, p = 108 ∨ (118 ≤ p ∧ p ≤ 122) → t.2.1 p = u.2.1 p) (h : we_J E Z P u v T k) : we_J E Z P t v T k := by
  obtain ⟨w, P', ⟨h0, h1⟩, h2, h3⟩ := h
  have e61 := ef 61 (by omega)
  have e86 := ef 86 (by omega)
  have e89 := ef 89 (by omega)
  refine ⟨w, P', ⟨we_N_same (ef 79 (by omega)) e61 (fun p hp => ea p (by omega)) h0, ?_⟩, h2, fun _ => ?_⟩
  · unfold we_Sp
    rw [e86, ea 122 (by omega)]
    exact h1
  · have h3' := h3 trivial
    rw [e61, e89, ea 119 (by omega)]
    exact h3'
theorem we_J_F {E : we_E Ω} {Z : we_A Ω} {P : Int → Prop} {u t : sx_S} {v T : rf_N} {k : we_A Ω → we_A Ω} {V : List (Nat × Nat)} {W : List Nat} (hF : cx_F V u t) (hf : rf_f W u t) (hW : (W.contains 61 || W.contains 79 || W.contains 86 || W.contains 89) = false) (hV : (cx_outb V 108 && cx_outb V 118 && cx_outb V 119 && cx_outb V 120 && cx_outb V 121 && cx_outb V 122) = true) (h : we_J E Z P u v T k) : we_J E Z P t v T k := by
  simp only [Bool.or_eq_false_iff] at hW
  simp only [Bool.and_eq_true] at hV
  obtain ⟨⟨⟨w1, w2⟩, w3⟩, w4⟩ := hW
  obtain ⟨⟨⟨⟨⟨v1, v2⟩, v3⟩, v4⟩, v5⟩, v6⟩ := hV
  refine we_J_same (fun k hk => ?_) (fun p hp => ?_) h
  · rcases hk with rfl | rfl | rfl | rfl
    · exact hf 61 w1
    · exact hf 79 w2
    · exact hf 86 w3
    · exact hf 89 w4
  · have : p = 108 ∨ p = 118 ∨ p = 119 ∨ p = 120 ∨ p = 121 ∨ p = 122 := by omega
    rcases this with rfl | rfl | rfl | rfl | rfl | rfl
    · exact (hF.same 108 v1).2
    · exact (hF.same 118 v2).2
    · exact (hF.same 119 v3).2
    · exact (hF.same 120 v4).2
    · exact (hF.same 121 v5).2
    · exact (hF.same 122 v6).2
/-- bytes are put -/
theorem we_J_pt {E : we_E Ω} (hL : we_L E) {Z : we_A Ω} {P : Int → Prop} {u t : sx_S} {v T : rf_N} {k k' : we_A Ω → we_A Ω} {l : List Int} (ef : ∀ k, k = 61 ∨ k = 79 ∨ k = 89 → t.1 66 k = u.1 66 k) (ea : ∀ p, p = 108 ∨ (118 ≤ p ∧ p ≤ 121) → t.2.1 p = u.2.1 p) (hS : ∀ o, we_Sp E u o → we_Sp E t (l.foldl (fun o c => E.1.1 c o) o)) (hk : ∀ w, k w = k' (we_b E l w)) (h : we_J E Z P u v T k) : we_J E Z P t v T k' := by
  obtain ⟨w, P', ⟨h0, h1⟩, h2, h3⟩ := h
  have e61 := ef 61 (by omega)
  have e89 := ef 89 (by omega)
  refine ⟨we_b E l w, P', ⟨we_N_same (ef 79 (by omega)) e61 (fun p hp => ea p (by omega)) h0, hS _ h1⟩, by rw [← hk]; exact h2, fun _ => ?_⟩
  obtain ⟨a, b⟩ := h3 trivial
  rw [e61, e89, ea 119 (by omega)]
  exact ⟨a, fun c => ⟨we_pb_l (hL trivial).1 _ _ (b c).1, (b c).2⟩⟩
theorem we_J_put {E : we_E Ω} (hL : we_L E) {Z : we_A Ω} {P : Int → Prop} {u t : sx_S} {v T : rf_N} {k k' : we_A Ω → we_A Ω} {l : List Int} (hP : we_PT E u t l) (hk : ∀ w, k w = k' (we_b E l w)) (h : we_J E Z P u v T k) : we_J E Z P t v T k' := by
  obtain ⟨_, hF, hf, hS⟩ := hP
  refine we_J_pt hL (fun k hk => ?_) (fun p hp => ?_) hS hk h
  · rcases hk with rfl | rfl | rfl
    · exact hf 61 rfl
    · exact hf 79 rfl
    · exact hf 89 rfl
  · have : p = 108 ∨ p = 118 ∨ p = 119 ∨ p = 120 ∨ p = 121 := by omega
    rcases this with rfl | rfl | rfl | rfl | rfl <;> exact (hF.same _ rfl).2
/-- trees have no open unknowns as heads -/
theorem we_nn {H : Nat → Int → Int → rf_T → Prop} {P : Nat → rf_T → Prop} (hH : ∀ j k r u, H j k r u → k = 1 → 0 ≤ r) : ∀ {A : rf_N}, (∀ t, (rf_gt H P A).1 t → wz_nn (vr_1 A)) ∧ (∀ u t, (rf_gt H P A).2 u t → wz_nn (vr_c A))
  | .leaf => ⟨fun _ h => h.elim, fun _ _ _ => trivial⟩
  | .inner j q u f x => by
    have hf := we_nn hH (P := P) (A := f)
    have hx := we_nn hH (P := P) (A := x)
    have one : ∀ t, (rf_gt H P (.inner j q u f x)).1 t → (q.1 = 1 → 0 ≤ q.2) ∧ (q.1 ≠ 3 → wz_nn (vr_f q.1 f)) ∧ (q.1 = 0 → vx_sg (vr_f q.1 f)) := by
      rintro t (⟨e, A, B, _, h1, h2⟩ | ⟨e, w, h1, h2, _⟩)
      · refine ⟨fun c => by omega, fun _ => by rw [vr_f_0 e]; exact hf.1 B h2, fun _ => ?_⟩
        rw [vr_f_0 e]
        cases f with
        | leaf => exact h2.elim
        | inner j' q' u' f' x' => exact ⟨j', q'.1, q'.2, vr_f q'.1 f', rfl⟩
      · refine ⟨fun c => hH _ _ _ _ h1 c, fun c => ?_, fun c => absurd c e⟩
        have e2 : vr_f q.1 f = vr_c f := by
          unfold vr_f
          rw [if_neg e, if_neg c]
        rw [e2]
        exact hf.2 w t h2
    refine ⟨fun t h => ?_, fun w t h => ?_⟩
    · rw [vr_1_in]
      obtain ⟨a, b, c⟩ := one t h
      exact ⟨a, b, trivial, c⟩
    · rw [vr_c_in]
      obtain ⟨A, B, _, h1, h2⟩ := h
      obtain ⟨a, b, c⟩ := one A h1
      exact ⟨a, b, hx.2 B t h2, c⟩
theorem we_Hn1 {b : Int} {s : sx_S} {N : Int → rf_T → Prop} : ∀ j k r u, rf_Hn b s N j k r u → k = 1 → 0 ≤ r := fun j k r u h hk => by
  rcases h with ⟨h1, _⟩ | ⟨_, h2, _⟩ | ⟨h1, _⟩ | ⟨h1, _⟩
  · omega
  · exact h2.1
  · omega
  · omega
theorem we_V_ok {E : we_E Ω} {s : sx_S} {g : rf_Gh} (hI : cx_I s) (hG : we_G E s g) {A : rf_N} (ht : vr_t s (we_AR E) A) (hn : wz_nn (vr_1 A)) (y : rf_Y) (dp : Int) : wz_ok (s.1 66 61) (vr_ar s) (we_V E s A y dp) := by
  obtain ⟨⟨_, h2⟩, _, h4, _⟩ := hG trivial
  exact wz_ok_re _ (wz_ok_val (fun m => (h2.1 m).1) hn (fun m hm => by
    have := ((vr_in (g := g) hI).1 ht).1 m hm
    exact h4 m this.1 this.2))
theorem we_V_on {E : we_E Ω} {s : sx_S} {g : rf_Gh} (hG : we_G E s g) {A : rf_N} (ht : vr_t s (we_AR E) A) (y : rf_Y) (dp : Int) : vx_on (we_V E s A y dp) := vx_re_on (vr_V_on (fun m => ((hG trivial).1.2.1 m).1) (vr_t_ne ht))
theorem we_on_1 {v : rf_N} (h : vx_on v) : vx_1 v = v := by
  obtain ⟨k, h, F, rfl⟩ := h
  rfl
/-- which open unknowns are numbered when it is written -/
theorem we_W_acc {E : we_E Ω} {n : Int} {ar : Int → Int} {v : rf_N} (ho : wz_ok n ar v) (h1 : vx_on v) (dp : Int) (w : we_A Ω) : ((we_W E v).1 dp w).1 = wz_go v w.1 := by
  have := (we_acc (pb := E.1.1) (dg := E.1.2.1) (nm := E.1.2.2) (hf := we_hf E.1.1 E.1.2.1 E.1.2.2 E.2.2.1) (we_hf_1 _) ho dp w).1
  rw [we_on_1 h1] at this
  exact this
/-- nothing new is met, and the paper is full: all is as if it had been written -/
theorem we_J_full {E : we_E Ω} (hL : we_L E) {Z : we_A Ω} {P : Int → Prop} {u : sx_S} {v T : rf_N} {n : Int} {ar : Int → Int} {dp : Int} (ho : wz_ok n ar v) (h1 : vx_on v) (hc : ∀ w : we_A Ω, ∀ P' : Int → Prop, we_Sp E u w.2 → we_M E u w Z v T P P' → we_sa E w.2 ∧ ∀ x, wz_oc x v → x ∈ w.1.map Prod.fst) (h : we_J E Z P u v T ((we_W E v).1 dp)) : we_Z E Z P u := fun _ => by
  obtain ⟨w, P', ⟨h2, h3⟩, h4, h5⟩ := h
  obtain ⟨c1, c2⟩ := hc w P' h3 h5
  have e1 : Z.1 = w.1 := by
    rw [← h4, we_W_acc ho h1, wz_go_sub c2]
  have e2 := (we_sat (pb := E.1.1) (dg := E.1.2.1) (nm := E.1.2.2) (hf := we_hf E.1.1 E.1.2.1 E.1.2.2 E.2.2.1) (P := fun o => we_sa E o ∧ we_Sp E u o) (fun c o ho => ⟨(hL trivial).1 c o ho.1, (hL trivial).2.1 _ _ c o ho.1 ho.2⟩) (fun h xs dp w hw => we_hf_sat (P := fun o => we_sa E o ∧ we_Sp E u o) (fun c o ho => ⟨(hL trivial).1 c o ho.1, (hL trivial).2.1 _ _ c o ho.1 ho.2⟩) _ _ _ _ _ hw) (v := v) dp w ⟨c1, h3⟩).1
  have e3 : we_sa E Z.2 ∧ we_Sp E u Z.2 := by
    rw [← h4]
    exact e2
  refine ⟨⟨by rw [e1]; exact h2, e3.2⟩, fun c => ⟨e3.1, fun m m0 m1 hs => ?_⟩⟩
  obtain ⟨_, b, d⟩ := (h5 trivial).2 c
  rcases d m m0 m1 hs with z | z
  · exact (b m z).2
  · rw [e1]
    exact Or.inr z
/-- what is numbered stays numbered -/
theorem we_w_sub {pb : Int → Ω → Ω} {dg nm : Int → List Int} {hf : Int → List Int → Int → we_A Ω → we_A Ω} {z : Int} (hh : ∀ h xs dp w, z ∈ w.1.map Prod.fst → z ∈ (hf h xs dp w).1.map Prod.fst) : ∀ {v : rf_N} (dp : Int) (w : we_A Ω), z ∈ w.1.map Prod.fst → z ∈ ((we_w pb dg nm hf v).1 dp w).1.map Prod.fst ∧ z ∈ ((we_w pb dg nm hf v).2 dp w).1.map Prod.fst
  | .leaf, _, _, h => ⟨h, h⟩
  | .inner j q u F X, dp, w, h => by
    have one : ∀ dp w, z ∈ w.1.map Prod.fst → z ∈ (we_o pb dg nm hf q F (we_w pb dg nm hf F) dp w).1.map Prod.fst := fun dp w h => by
      unfold we_o
      by_cases c0 : q.1 = 0
      · rw [if_pos c0]
        refine (we_w_sub hh (v := F) _ _ ?_).1
        exact h
      · rw [if_neg c0]
        by_cases c1 : q.1 = 1 ∧ q.2 < 0
        · rw [if_pos c1]
          exact hh _ _ _ _ h
        · rw [if_neg c1]
          refine (we_w_sub hh (v := F) _ _ ?_).2
          exact h
    refine ⟨by rw [we_w_1]; exact one _ _ h, ?_⟩
    rw [we_w_2]
    refine (we_w_sub hh (v := X) _ _ ?_).2
    unfold we_g
    by_cases c : q.1 = 0 ∨ rf_len F ≠ 0
    · rw [if_pos c]
      exact one _ _ h
    · rw [if_neg c]
      exact one _ _ h
theorem we_W_sub {E : we_E Ω} {z : Int} {v : rf_N} (dp : Int) (w : we_A Ω) (h : z ∈ w.1.map Prod.fst) : z ∈ ((we_W E v).1 dp w).1.map Prod.fst := (we_w_sub (fun h xs dp w hz => by
  rw [we_hf_1, wz_ad_mem]
  exact Or.inl hz) dp w h).1
end
