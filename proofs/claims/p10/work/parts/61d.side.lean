/-! ===== one side of a pair, on its way down ===== -/
def vx_sd (tv tc : Int → rf_T) (tm : Int → Int → rf_T) (S : vx_S) (lt : Int → rf_T) (L : Int) (t : rf_T) (A : rf_N) (c : List (Int × Int)) : Prop := True → (vx_in S A ∧ vx_sg A ∧ (vx_ty tv tc tm S.2.2.2.2 A).1 t) ∧ (∀ z, 0 ≤ dv_lk c z → tv z = lt (dv_lk c z)) ∧ (0 ≤ L ∧ vx_ck L c) ∧ (∀ z, vx_fv (vx_U S) S.2.2.2.2 z A → 0 ≤ dv_lk c z) ∧ vx_nb A (fun z => z ∈ c.map Prod.fst)
/-- what holds of the state of solving -/
def vx_TS (tv tc : Int → rf_T) (tm : Int → Int → rf_T) (S : vx_S) (PR : Int → List (Int × Int)) : Prop := True → (vx_W S ∧ vx_B1 S ∧ vx_Sc S ∧ ∃ rk, vx_rk S rk) ∧ ∀ u B e, S.2.2.2.1 u = some (B, e) → e = dv_lk (PR u).reverse ∧ (vx_sg B ∧ (vx_ty tv tc tm S.2.2.2.2 B).1 rf_b) ∧ (∀ q ∈ PR u, tv q.1 = tm u q.2 ∧ 0 ≤ q.2 ∧ q.2 < S.2.2.1 u ∧ 0 ≤ q.1) ∧ ((PR u).map Prod.fst).Nodup ∧ ((PR u).map Prod.snd).Nodup ∧ vx_nb B (fun z => z ∈ (PR u).map Prod.fst)
section
variable {tv tc : Int → rf_T} {tm : Int → Int → rf_T} {S : vx_S} {lt : Int → rf_T} {L : Int} {t : rf_T}
theorem vx_in_lam {j : Nat} {x : Int} {F : rf_N} (h : vx_in S (rf_n j 0 x F .leaf)) : vx_in S F := by
  obtain ⟨h1, h2, h3⟩ := h
  refine ⟨fun m hm => h1 m (Or.inr (Or.inl ⟨by show (0 : Int) ≠ 3; decide, hm⟩)), fun i hi => h2 i (List.mem_cons_of_mem _ (List.mem_append_left _ hi)), ?_⟩
  rcases h3.1 with ⟨_, q⟩ | ⟨q, _⟩
  · exact q
  · exact absurd q vx_03
theorem vx_in_el {j : Nat} {k h : Int} {F A : rf_N} (h3 : k ≠ 3) (hi : vx_in S (rf_n j k h F .leaf)) (hA : A ∈ vx_el F) : vx_in S A := by
  have hF : vx_in S F := by
    obtain ⟨a1, a2, a3⟩ := hi
    refine ⟨fun m hm => a1 m (Or.inr (Or.inl ⟨h3, hm⟩)), fun i hi => a2 i (List.mem_cons_of_mem _ (List.mem_append_left _ hi)), ?_⟩
    rcases a3.1 with ⟨_, q⟩ | ⟨q, _⟩
    · exact q
    · exact absurd q h3
  clear hi
  induction F with
  | leaf => exact absurd hA List.not_mem_nil
  | inner i q u ff x ihf ihx =>
    obtain ⟨a1, a2, a3⟩ := hF
    rcases List.mem_cons.mp hA with rfl | hA
    · refine ⟨fun m hm => ?_, fun n hn => ?_, ⟨a3.1, trivial⟩⟩
      · rcases hm with hm | hm | hm
        · exact a1 m (Or.inl hm)
        · exact a1 m (Or.inr (Or.inl hm))
        · exact hm.elim
      · rcases List.mem_cons.mp hn with rfl | hn
        · exact a2 _ List.mem_cons_self
        · rcases List.mem_append.mp hn with hn | hn
          · exact a2 n (List.mem_cons_of_mem _ (List.mem_append_left _ hn))
          · exact absurd hn List.not_mem_nil
    · exact ihx hA ⟨fun m hm => a1 m (Or.inr (Or.inr hm)), fun n hn => a2 n (List.mem_cons_of_mem _ (List.mem_append_right _ hn)), a3.2⟩
theorem vx_el_sg {A : rf_N} : ∀ {F : rf_N}, A ∈ vx_el F → vx_sg A
  | .leaf, h => absurd h List.not_mem_nil
  | .inner j q u F X, h => by
    rcases List.mem_cons.mp h with rfl | h
    · exact ⟨j, q.1, q.2, F, rfl⟩
    · exact vx_el_sg h
/-- below a \ -/
theorem vx_sd_lam {j : Nat} {x : Int} {F : rf_N} {c : List (Int × Int)} (hF : vx_sg F) (h : vx_sd tv tc tm S lt L t (rf_n j 0 x F .leaf) c) : ∃ B, t = rf_a (tv x) B ∧ vx_sd tv tc tm S (fun l => if l = L then tv x else lt l) (L + 1) B F ((x, L) :: c) := by
  obtain ⟨⟨a1, _, a3⟩, b, ⟨c1, c2⟩, d, e⟩ := h trivial
  obtain ⟨l1, _⟩ := vx_ck_lk c1 c2
  have a3' : ∃ B, t = rf_a (tv x) B ∧ (vx_ty tv tc tm S.2.2.2.2 F).1 B := by
    rcases a3 with ⟨_, B, q1, q2⟩ | ⟨q, _⟩ | ⟨q, _⟩ | ⟨q, _⟩
    · exact ⟨B, q1, q2⟩
    · have q' : (0 : Int) = 1 := q
      omega
    · have q' : (0 : Int) = 2 := q
      omega
    · exact absurd q vx_03
  obtain ⟨B, t1, t2⟩ := a3'
  have e' : (0 ≤ x ∧ x ∉ c.map Prod.fst) ∧ vx_nb F (fun z => z = x ∨ z ∈ c.map Prod.fst) := by
    rcases e.1 with ⟨_, q1, q2⟩ | ⟨q, _⟩ | q
    · exact ⟨q1, q2⟩
    · exact absurd rfl q
    · exact absurd q vx_03
  refine ⟨B, t1, fun _ => ⟨⟨vx_in_lam a1, hF, t2⟩, fun z hz => ?_, ⟨by omega, vx_ck_up c1 e'.1.1 c2 e'.1.2⟩, fun z hz => ?_, ?_⟩⟩
  · rw [dv_lk_c] at hz ⊢
    dsimp only at hz ⊢
    by_cases q : x = z
    · rw [if_pos q, if_pos rfl, q]
    · rw [if_neg q] at hz ⊢
      rw [if_neg (by have := l1 z; omega)]
      exact b z hz
  · rw [dv_lk_c]
    dsimp only
    by_cases q : x = z
    · rw [if_pos q]
      exact c1
    · rw [if_neg q]
      exact d z (Or.inl (Or.inl ⟨rfl, fun w => q w.symm, hz⟩))
  · refine vx_nb_mono (fun z hz => ?_) e'.2
    rw [List.map_cons] at hz
    exact List.mem_cons.mp hz
/-- an ARG -/
theorem vx_sd_el {j : Nat} {k h : Int} {F A : rf_N} {t' : rf_T} {c : List (Int × Int)} (h0 : k ≠ 0) (h3 : k ≠ 3) (hA : A ∈ vx_el F) (ht : (vx_ty tv tc tm S.2.2.2.2 A).1 t') (hh : vx_sd tv tc tm S lt L t (rf_n j k h F .leaf) c) : vx_sd tv tc tm S lt L t' A c := fun _ => by
  obtain ⟨⟨a1, _, a3⟩, b, cc, d, e⟩ := hh trivial
  refine ⟨⟨vx_in_el h3 a1 hA, vx_el_sg hA, ht⟩, b, cc, fun z hz => d z (Or.inl (Or.inr (Or.inr ⟨h0, h3, Or.inr (vx_fv_el.mpr ⟨A, hA, hz⟩)⟩))), ?_⟩
  rcases e.1 with ⟨q, _⟩ | ⟨_, _, q⟩ | q
  · exact absurd q h0
  · exact vx_nb_el q hA
  · exact absurd q h3
/-- the variable at the head is there -/
theorem vx_sd_var {j : Nat} {h : Int} {F : rf_N} {c : List (Int × Int)} (hh : vx_sd tv tc tm S lt L t (rf_n j 2 h F .leaf) c) : 0 ≤ dv_lk c h ∧ tv h = lt (dv_lk c h) := by
  obtain ⟨_, b, _, d, _⟩ := hh trivial
  have := d h (Or.inl (Or.inr (Or.inr ⟨by show (2 : Int) ≠ 0; decide, by show (2 : Int) ≠ 3; decide, Or.inl ⟨rfl, rfl⟩⟩)))
  exact ⟨this, b h this⟩
/-- the ARGs of an open unknown are there -/
theorem vx_sd_open {j : Nat} {u : Int} {F : rf_N} {c : List (Int × Int)} (hu : S.2.2.2.1 u = none) (hl : ((S.2.2.2.2 j).length : Int) = S.2.2.1 u) (hh : vx_sd tv tc tm S lt L t (rf_n j 3 u F .leaf) c) : ∀ y ∈ S.2.2.2.2 j, 0 ≤ dv_lk c y := fun y hy => by
  obtain ⟨_, _, _, d, _⟩ := hh trivial
  obtain ⟨i, h1, h2⟩ := List.getElem_of_mem hy
  refine d y (Or.inl (Or.inr (Or.inl ⟨rfl, i, ?_, (vx_U_cl S).1 u i hu (by omega) (by omega)⟩)))
  rw [List.getElem?_eq_getElem h1, h2]
theorem vx_in_len {j : Nat} {u : Int} {F : rf_N} (h : vx_in S (rf_n j 3 u F .leaf)) : ((S.2.2.2.2 j).length : Int) = S.2.2.1 u := by
  rcases h.2.2.1 with ⟨z, _⟩ | ⟨_, z⟩
  · have z' : (3 : Int) = 0 ∨ (3 : Int) = 1 ∨ (3 : Int) = 2 := z
    omega
  · exact z
/-- into the body of an unknown -/
theorem vx_sd_body {PR : Int → List (Int × Int)} {j : Nat} {m : Int} {F B : rf_N} {e : Int → Int} {c : List (Int × Int)} (hT : vx_TS tv tc tm S PR) (hb : S.2.2.2.1 m = some (B, e)) (hn : (S.2.2.2.2 j).Nodup) (hh : vx_sd tv tc tm S lt L t (rf_n j 3 m F .leaf) c) : vx_sd tv tc tm S lt L t B (dv_in (PR m) (S.2.2.2.2 j) c) := fun _ => by
  obtain ⟨⟨a1, _, a3⟩, b, ⟨c1, c2⟩, d, _⟩ := hh trivial
  obtain ⟨⟨W, B1, Sc, _⟩, T⟩ := hT trivial
  obtain ⟨e0, ⟨e1, e2⟩, e3, e4, e5, e6⟩ := T m B e hb
  have hl := vx_in_len a1
  have e3' : ∀ q ∈ PR m, 0 ≤ q.2 ∧ q.2 < ((S.2.2.2.2 j).length : Int) := fun q hq => by
    have := (e3 q hq).2
    omega
  obtain ⟨i1, i2, i3⟩ := dv_in_lk (c := c) e4 e3'
  have a3' : t = rf_b ∧ ∀ (i : Nat) y, (S.2.2.2.2 j)[i]? = some y → tv y = tm m i := by
    rcases a3 with ⟨q, _⟩ | ⟨q, _⟩ | ⟨q, _⟩ | ⟨_, q⟩
    · exact absurd q vx_30
    · have q' : (3 : Int) = 1 := q
      omega
    · have q' : (3 : Int) = 2 := q
      omega
    · exact q
  obtain ⟨rfl, a4⟩ := a3'
  obtain ⟨⟨w1, w2⟩, w3, _⟩ := W m B e hb
  have tyv : ∀ z, 0 ≤ dv_lk (PR m).reverse z → ∃ y, (S.2.2.2.2 j)[(dv_lk (PR m).reverse z).toNat]? = some y ∧ tv z = tv y ∧ dv_lk (dv_in (PR m) (S.2.2.2.2 j) c) z = dv_lk c y := fun z hz => by
    have hlt := i3 z
    have hi : (dv_lk (PR m).reverse z).toNat < (S.2.2.2.2 j).length := by omega
    refine ⟨_, List.getElem?_eq_getElem hi, ?_, ?_⟩
    · rcases dv_lk_in (l := (PR m).reverse) (x := z) with q | ⟨q, _⟩
      · have q1 := (e3 _ (List.mem_reverse.mp q)).1
        have q2 := a4 _ _ (List.getElem?_eq_getElem hi)
        rw [Int.toNat_of_nonneg hz] at q2
        exact q1.trans q2.symm
      · omega
    · rw [i1 z hz, vx_getD_map _ _ _ hi, vx_gD hi]
  refine ⟨⟨w3, e1, e2⟩, fun z hz => ?_, ⟨c1, vx_ck_in c1 c2 e4 e5 e3' (fun q hq => (e3 q hq).2.2.2) hn⟩, fun z hz => ?_, ?_⟩
  · by_cases q : 0 ≤ dv_lk (PR m).reverse z
    · obtain ⟨y, y1, y2, y3⟩ := tyv z q
      rw [y3] at hz ⊢
      rw [y2]
      exact b y hz
    · rw [i2 z (by omega)] at hz
      omega
  · have u1 := Sc m B e z hb hz
    have u2 := (vx_U_cl S).2 m B e z hb hz
    rw [e0] at u1 u2
    obtain ⟨y, y1, _, y3⟩ := tyv z u1
    rw [y3]
    refine d y (Or.inl (Or.inr (Or.inl ⟨rfl, _, y1, ?_⟩)))
    rw [Int.toNat_of_nonneg u1]
    exact u2
  · refine vx_nb_mono (fun z hz => ?_) e6
    unfold dv_in at hz
    rw [List.map_reverse, List.mem_reverse, List.map_map] at hz
    exact hz
/-- more is known -/
theorem vx_sd_le {T : vx_S} {tm' : Int → Int → rf_T} {A : rf_N} {c : List (Int × Int)} (hle : vx_le S T) (hU : ∀ v i, v < S.1 → vx_U T v i → vx_U S v i) (hm : ∀ m i, m < S.1 → tm' m i = tm m i) (h : vx_sd tv tc tm S lt L t A c) : vx_sd tv tc tm' T lt L t A c := fun _ => by
  obtain ⟨⟨a1, a2, a3⟩, b, cc, d, e⟩ := h trivial
  refine ⟨⟨vx_in_le hle a1, a2, (vx_ty_cg (fun m i hq => hm m i (a1.1 m hq).2) (fun j hj => hle.2.2.2 j (a1.2.1 j hj))).1 t a3⟩, b, cc, fun z hz => d z ?_, e⟩
  have hz' := (vx_fv_ar (fun j hj => hle.2.2.2 j (a1.2.1 j hj))).mp hz
  exact vx_fv_mono' a1.2.2 (fun m i hq _ hu => hU m i (a1.1 m hq).2 hu) hz'
end
