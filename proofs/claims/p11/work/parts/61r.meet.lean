/-! ===== more is known ===== -/
def vx_isc (B : rf_N) : Prop := ∃ (j : Nat) (m : Int) (F : rf_N), B = rf_n j 3 m F .leaf
/-- what is new is calls, and X alone -/
def vx_l2 (X : rf_N → Prop) (S T : vx_S) : Prop := vx_le S T ∧ ∀ u B e, T.2.2.2.1 u = some (B, e) → S.2.2.2.1 u = some (B, e) ∨ vx_isc B ∨ X B
theorem vx_l2_refl {X : rf_N → Prop} (S : vx_S) : vx_l2 X S S := ⟨vx_le_refl S, fun _ _ _ h => Or.inl h⟩
theorem vx_l2_trans {X : rf_N → Prop} {S T R : vx_S} (h1 : vx_l2 X S T) (h2 : vx_l2 X T R) : vx_l2 X S R := ⟨vx_le_trans h1.1 h2.1, fun u B e h => by
  rcases h2.2 u B e h with h | h | h
  · exact h1.2 u B e h
  · exact Or.inr (Or.inl h)
  · exact Or.inr (Or.inr h)⟩
theorem vx_l2_im {X Y : rf_N → Prop} {S T : vx_S} (hXY : ∀ B, X B → Y B) (h : vx_l2 X S T) : vx_l2 Y S T := ⟨h.1, fun u B e hb => by
  rcases h.2 u B e hb with q | q | q
  · exact Or.inl q
  · exact Or.inr (Or.inl q)
  · exact Or.inr (Or.inr (hXY B q))⟩
theorem vx_nw_l2 {S T : vx_S} {x : Int} {j : Nat} {F : rf_N} {eu : Int → Int} {zs ks : List Int} (hn : vx_nw S T x j F eu zs ks) : vx_l2 (fun _ => False) S T := ⟨vx_nw_le hn, fun u B e h => by
  obtain ⟨_, _, _, d, _⟩ := hn
  rw [d] at h
  by_cases q : u = x
  · rw [if_pos q] at h
    exact Or.inr (Or.inl ⟨_, _, _, (Prod.mk.inj (Option.some.inj h)).1.symm⟩)
  · rw [if_neg q] at h
    exact Or.inl h⟩
theorem vx_gv_l2 {S T : vx_S} {u : Int} {B : rf_N} {eu : Int → Int} (hg : vx_gv S T u B eu) : vx_l2 (fun C => C = B) S T := ⟨vx_gv_le hg, fun v C e h => by
  obtain ⟨_, _, c, _⟩ := hg
  rw [c] at h
  by_cases q : v = u
  · rw [if_pos q] at h
    exact Or.inr (Or.inr (Prod.mk.inj (Option.some.inj h)).1.symm)
  · rw [if_neg q] at h
    exact Or.inl h⟩
/-! ===== what holds between the steps of solving; meet ===== -/
def dv_es (tv tc : Int → rf_T) (tm : Int → Int → rf_T) (S : vx_S) : List dv_E → Prop
  | [] => True
  | p :: r => (vx_2 tv tc tm S p.1.1 p.1.2 p.2.1.1 p.2.1.2 p.2.2.1 ∧ vx_c2 S p.1.1 p.2.1.1 p.2.2.2 p.2.2.1 r.length) ∧ dv_es tv tc tm S r
def dv_pe (p : dv_E) : vx_P := ((p.1.1, dv_lk p.1.2), (p.2.1.1, dv_lk p.2.1.2), p.2.2.1)
/-- the memory, the state, what is still to be done: ps, then the pile r -/
def dv_G (tv tc : Int → rf_T) (n0 : Int) (Qs : (Int → rf_N) → Prop) (s : sx_S) (S : vx_S) (PR : Int → List (Int × Int)) (tm : Int → Int → rf_T) (ps : List vx_P) (r : List dv_E) : Prop := True → cx_I s ∧ dv_M s S PR ∧ vx_TS tv tc tm S PR ∧ vx_CT S ∧ (dv_ps s S.2.2.2.2 (s.1 29 3) r ∧ s.1 39 6 = (r.length : Int)) ∧ dv_es tv tc tm S r ∧ vx_J S n0 Qs (ps ++ r.map dv_pe)
theorem vx_2_le {tv tc : Int → rf_T} {tm tm' : Int → Int → rf_T} {S T : vx_S} {A B : rf_N} {c d : List (Int × Int)} {L : Int} (hle : vx_le S T) (hU : ∀ v i, v < S.1 → vx_U T v i → vx_U S v i) (hm : ∀ m i, m < S.1 → tm' m i = tm m i) (h : vx_2 tv tc tm S A c B d L) : vx_2 tv tc tm' T A c B d L := fun _ => by
  obtain ⟨lt, t, h1, h2⟩ := h trivial
  exact ⟨lt, t, vx_sd_le hle hU hm h1, vx_sd_le hle hU hm h2⟩
theorem dv_es_le {tv tc : Int → rf_T} {tm tm' : Int → Int → rf_T} {S T : vx_S} (hW : vx_W S) (hle : vx_le S T) (hU : ∀ v i, v < S.1 → vx_U T v i → vx_U S v i) (hm : ∀ m i, m < S.1 → tm' m i = tm m i) : ∀ {r : List dv_E}, dv_es tv tc tm S r → dv_es tv tc tm' T r
  | [], _ => trivial
  | p :: r, ⟨⟨h1, h2⟩, h3⟩ => ⟨⟨vx_2_le hle hU hm h1, vx_c2_le hle hW h2⟩, dv_es_le hW hle hU hm h3⟩
theorem dv_es_in {tv tc : Int → rf_T} {tm : Int → Int → rf_T} {S : vx_S} : ∀ {r : List dv_E}, dv_es tv tc tm S r → ∀ q ∈ r.map dv_pe, vx_in S q.1.1 ∧ vx_in S q.2.1.1
  | [], _, q, hq => absurd hq List.not_mem_nil
  | p :: r, ⟨⟨h1, _⟩, h3⟩, q, hq => by
    rw [List.map_cons] at hq
    rcases List.mem_cons.mp hq with rfl | hq
    · obtain ⟨lt, t, g1, g2⟩ := h1 trivial
      exact ⟨(g1 trivial).1.1, (g2 trivial).1.1⟩
    · exact dv_es_in h3 q hq
/-- only what the solver's own cells hold has changed -/
theorem dv_G_F {tv tc : Int → rf_T} {n0 : Int} {Qs : (Int → rf_N) → Prop} {s u : sx_S} {S : vx_S} {PR : Int → List (Int × Int)} {tm : Int → Int → rf_T} {ps ps' : List vx_P} {r : List dv_E} (h : dv_G tv tc n0 Qs s S PR tm ps r) (hI : cx_I u) (hF : cx_F [(29, 33), (38, 38), (46, 54)] s u) (h33 : u.1 33 6 = s.1 33 6) (hl : dv_lf s u) (hJ : vx_J S n0 Qs (ps' ++ r.map dv_pe)) : dv_G tv tc n0 Qs u S PR tm ps' r := fun _ => by
  obtain ⟨g1, g2, g3, g4, ⟨g5, g6⟩, g7, _⟩ := h trivial
  have nf : dv_nf (s.1 11 6) S.2.2.2.2 S.2.2.2.2 s u := dv_nf_F _ hF (by decide)
  refine ⟨hI, dv_M_fr (Int.le_refl _) (by rw [(hF.same 11 rfl).1]) nf h33 (hF.same 34 rfl).2 (hF.same 35 rfl).2 (hF.same 36 rfl).2 (hF.same 37 rfl).2 g2, g3, g4, ⟨dv_ps_hi (hl trivial).1 (dv_ps_fr (Int.le_refl _) nf (hl trivial).2 (fun j _ => ?_) g5), by rw [(hF.same 39 rfl).1]; exact g6⟩, g7, hJ⟩
  rw [(hF.same 40 rfl).2, (hF.same 41 rfl).2, (hF.same 42 rfl).2, (hF.same 43 rfl).2, (hF.same 44 rfl).2, (hF.same 45 rfl).2]
  exact ⟨rfl, rfl, rfl, rfl, rfl, rfl⟩
/-- a narrowing in it -/
theorem dv_G_nw {tv tc : Int → rf_T} {n0 : Int} {Qs : (Int → rf_N) → Prop} {s t : sx_S} {S : vx_S} {PR : Int → List (Int × Int)} {tm : Int → Int → rf_T} {ps ps' : List vx_P} {r : List dv_E} {j : Nat} {x k a0 : Int} {F Fn : rf_N} (h : dv_G tv tc n0 Qs s S PR tm ps r) (hA : dv_at s S.2.2.2.2 (rf_n j 3 x F .leaf) a0) (hin : vx_in S (rf_n j 3 x F .leaf)) (hty : ∀ (i : Nat) y, (S.2.2.2.2 j)[i]? = some y → tv y = tm x i) (hx : S.2.2.2.1 x = none) (hn : dv_nr k x (dz_hs F) s t Fn) (hlt : ∃ i, i < (S.2.2.2.2 j).length ∧ dv_tb k i = false) (hIt : cx_I t) (hF : cx_F [(11, 17), (33, 37)] s t) (hJ : ∀ T eu zs ks jn, vx_nw S T x jn Fn eu zs ks → (∀ i : Nat, i < (S.2.2.2.2 j).length → ((i : Int) ∈ ks ↔ dv_tb k i = true)) → vx_J T n0 Qs (ps' ++ r.map dv_pe)) : ∃ T PR' tm' eu zs ks jn, vx_nw S T x jn Fn eu zs ks ∧ (∀ i : Nat, i < (S.2.2.2.2 j).length → ((i : Int) ∈ ks ↔ dv_tb k i = true)) ∧ dv_nf (s.1 11 6) S.2.2.2.2 T.2.2.2.2 s t ∧ (∀ m i, m < S.1 → tm' m i = tm m i) ∧ (∀ v i, v < S.1 → vx_U T v i → vx_U S v i) ∧ dv_G tv tc n0 Qs t T PR' tm' ps' r := by
  obtain ⟨g1, g2, g3, g4, ⟨g5, g6⟩, g7, _⟩ := h trivial
  obtain ⟨⟨W, _⟩, _⟩ := g3 trivial
  obtain ⟨T, PR', tm', eu, zs, ks, jn, n1, n2, n3, n4, n5, n6, n7⟩ := dv_nr_T g1 g2 g3 g4 hA hin hty hx hn hlt hF
  have hle := vx_nw_le n1
  have hU : ∀ v i, v < S.1 → vx_U T v i → vx_U S v i := fun v i hv hu => vx_nw_U n1 W v i (by omega) hu
  refine ⟨T, PR', tm', eu, zs, ks, jn, n1, n7, n6, n5, hU, fun _ => ⟨hIt, n2, n3, n4, ⟨?_, by rw [(hF.same 39 rfl).1]; exact g6⟩, dv_es_le W hle hU n5 g7, hJ T eu zs ks jn n1 n7⟩⟩
  rw [(hF.same 29 rfl).1]
  refine dv_ps_fr (Int.le_refl _) n6 (fun i _ => ?_) (fun i _ => ?_) g5
  · rw [(hF.same 30 rfl).2, (hF.same 31 rfl).2, (hF.same 32 rfl).2]
    exact ⟨rfl, rfl, rfl⟩
  · rw [(hF.same 40 rfl).2, (hF.same 41 rfl).2, (hF.same 42 rfl).2, (hF.same 43 rfl).2, (hF.same 44 rfl).2, (hF.same 45 rfl).2]
    exact ⟨rfl, rfl, rfl, rfl, rfl, rfl⟩
theorem vx_ty_call {tv tc : Int → rf_T} {tm : Int → Int → rf_T} {AR : Nat → List Int} {j : Nat} {x : Int} {F : rf_N} {t : rf_T} (h : (vx_ty tv tc tm AR (rf_n j 3 x F .leaf)).1 t) : ∀ (i : Nat) y, (AR j)[i]? = some y → tv y = tm x i := by
  rcases h with ⟨q, _⟩ | ⟨q, _⟩ | ⟨q, _⟩ | ⟨_, _, q⟩
  · exact absurd q vx_30
  · have q' : (3 : Int) = 1 := q
    omega
  · have q' : (3 : Int) = 2 := q
    omega
  · exact q
