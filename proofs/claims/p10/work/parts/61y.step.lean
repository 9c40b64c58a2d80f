/-! ===== a step of solving ===== -/
theorem dv_G_tp {tv tc : Int → rf_T} {n0 : Int} {Qs : (Int → rf_N) → Prop} {s u : sx_S} {S : vx_S} {PR : Int → List (Int × Int)} {tm : Int → Int → rf_T} {p : dv_E} {r : List dv_E} {A B : rf_N} {c e : List (Int × Int)} {L : Int} (h : dv_G tv tc n0 Qs s S PR tm [] (p :: r)) (hI : cx_I u) (hF : cx_F [(29, 32), (38, 39)] s u) (h39 : u.1 39 6 = (r.length : Int)) (hl : dv_lm p.2.2.2 s u) (hd : vx_rd S p.1.1 p.1.2 p.2.1.1 p.2.1.2 p.2.2.1 A c B e L) : dv_G tv tc n0 Qs u S PR tm [((A, dv_lk c), (B, dv_lk e), L)] r := fun _ => by
  obtain ⟨g1, g2, g3, g4, ⟨⟨_, _, _, _, g5⟩, g6⟩, ⟨_, g7⟩, g8⟩ := h trivial
  have nf : dv_nf (s.1 11 6) S.2.2.2.2 S.2.2.2.2 s u := dv_nf_F _ hF (by decide)
  refine ⟨hI, dv_M_fr (Int.le_refl _) (by rw [(hF.same 11 rfl).1]) nf (by rw [(hF.same 33 rfl).1]) (hF.same 34 rfl).2 (hF.same 35 rfl).2 (hF.same 36 rfl).2 (hF.same 37 rfl).2 g2, g3, g4, ⟨dv_ps_hi (hl trivial).1 (dv_ps_fr (Int.le_refl _) nf (hl trivial).2 (fun i _ => ?_) g5), h39⟩, g7, ?_⟩
  · rw [(hF.same 40 rfl).2, (hF.same 41 rfl).2, (hF.same 42 rfl).2, (hF.same 43 rfl).2, (hF.same 44 rfl).2, (hF.same 45 rfl).2]
    exact ⟨rfl, rfl, rfl, rfl, rfl, rfl⟩
  · refine vx_J_rep (ps := [((A, dv_lk c), (B, dv_lk e), L)]) (p := dv_pe p) (pend := r.map dv_pe) g8 (fun th hS => ?_)
    have hx : vx_pe th S.2.2.2.2 (dv_pe p) ↔ vx_pe th S.2.2.2.2 ((A, dv_lk c), (B, dv_lk e), L) := (hd trivial).1 th hS
    exact ⟨fun h q hq => by rw [List.mem_singleton.mp hq]; exact hx.mp h, fun h => hx.mpr (h _ List.mem_cons_self)⟩
/-- one pair in place of another that says the same -/
theorem dv_G_rep {tv tc : Int → rf_T} {n0 : Int} {Qs : (Int → rf_N) → Prop} {s : sx_S} {S : vx_S} {PR : Int → List (Int × Int)} {tm : Int → Int → rf_T} {p q : vx_P} {r : List dv_E} (h : dv_G tv tc n0 Qs s S PR tm [p] r) (hp : ∀ th, vx_So S th → (vx_pe th S.2.2.2.2 p ↔ vx_pe th S.2.2.2.2 q)) : vx_J S n0 Qs ([q] ++ r.map dv_pe) := by
  obtain ⟨_, _, _, _, _, _, g8⟩ := h trivial
  refine vx_J_rep (ps := [q]) (p := p) (pend := r.map dv_pe) g8 (fun th hS => ?_)
  rw [hp th hS]
  exact ⟨fun h w hw => by rw [List.mem_singleton.mp hw]; exact h, fun h => h _ List.mem_cons_self⟩
/-- two heads are taken apart: the pairs of their ARGs -/
theorem dv_es_zp {tv tc : Int → rf_T} {tm : Int → Int → rf_T} {S : vx_S} {j j' : Nat} {k h k' h' L u : Int} {F F' : rf_N} {c e : List (Int × Int)} {r : List dv_E} (h0 : k ≠ 0) (h3 : k ≠ 3) (h0' : k' ≠ 0) (h3' : k' ≠ 3) (hr : dv_es tv tc tm S r) (h4 : rf_len F ≤ 4) {lt : Int → rf_T} {t t' uu : rf_T} (s1 : vx_sd tv tc tm S lt L t (rf_n j k h F .leaf) c) (s2 : vx_sd tv tc tm S lt L t' (rf_n j' k' h' F' .leaf) e) (tF : (vx_ty tv tc tm S.2.2.2.2 F).2 uu) (tF' : (vx_ty tv tc tm S.2.2.2.2 F').2 uu) (hc : vx_c2 S (rf_n j k h F .leaf) (rf_n j' k' h' F' .leaf) u L r.length) : dv_es tv tc tm S (dv_zp F F' c e L u ++ r) := by
  obtain ⟨hl, hel⟩ := vx_ty_el tF tF'
  have key : ∀ (l l' : List rf_N), l.length ≤ 4 → l.length = l'.length → (∀ (i : Nat) A B, l[i]? = some A → l'[i]? = some B → (A ∈ vx_el F ∧ B ∈ vx_el F') ∧ ∃ t, (vx_ty tv tc tm S.2.2.2.2 A).1 t ∧ (vx_ty tv tc tm S.2.2.2.2 B).1 t) → dv_es tv tc tm S (List.zipWith (fun a b => ((a, c), (b, e), L, u)) l l' ++ r) := by
    intro l
    induction l with
    | nil => exact fun l' _ _ _ => by rw [List.zipWith_nil_left]; exact hr
    | cons A l ih =>
      intro l' hl4 hle hh
      cases l' with
      | nil => cases hle
      | cons B l' =>
        rw [List.length_cons] at hl4
        rw [List.length_cons, List.length_cons] at hle
        obtain ⟨⟨m1, m2⟩, ty, y1, y2⟩ := hh 0 A B rfl rfl
        refine ⟨⟨fun _ => ⟨lt, ty, vx_sd_el h0 h3 m1 y1 s1, vx_sd_el h0' h3' m2 y2 s2⟩, vx_c2_el h0 h3 h0' h3' m1 m2 ?_ hc⟩, ih l' (by omega) (by omega) (fun i A' B' e1 e2 => hh (i + 1) A' B' e1 e2)⟩
        show (List.zipWith _ l l' ++ r).length ≤ r.length + 3
        rw [List.length_append, List.length_zipWith]
        omega
  exact key (vx_el F) (vx_el F') (by rw [vx_el_len]; exact h4) (by rw [vx_el_len, vx_el_len]; exact hl) (fun i A B e1 e2 => ⟨⟨List.mem_of_getElem? e1, List.mem_of_getElem? e2⟩, hel i A B e1 e2⟩)
/-- A' is reached from A by the unknowns w, each given -/
def vw_wy (S : vx_S) : List Int → rf_N → rf_N → Prop
  | [], A, A' => A = A'
  | m :: w, A, A' => ∃ (j : Nat) (F B : rf_N) (e : Int → Int), A = rf_n j 3 m F .leaf ∧ S.2.2.2.1 m = some (B, e) ∧ vw_wy S w B A'
theorem vw_wy_snoc {S : vx_S} {j : Nat} {m : Int} {F X : rf_N} {e : Int → Int} (hb : S.2.2.2.1 m = some (X, e)) : ∀ {w : List Int} {A : rf_N}, vw_wy S w A (rf_n j 3 m F .leaf) → vw_wy S (w ++ [m]) A X
  | [], A, h => ⟨j, F, X, e, h, hb, rfl⟩
  | n :: w, A, ⟨j', F', B, e', h1, h2, h3⟩ => ⟨j', F', B, e', h1, h2, vw_wy_snoc hb h3⟩
/-- not two calls of one unknown with the same ARGs -/
def vw_ne (S : vx_S) (A : rf_N) (c : List (Int × Int)) (B : rf_N) (e : List (Int × Int)) : Prop := ∀ (j j' : Nat) (m : Int) (F F' : rf_N), A = rf_n j 3 m F .leaf → B = rf_n j' 3 m F' .leaf → (S.2.2.2.2 j).map (dv_lk c) ≠ (S.2.2.2.2 j').map (dv_lk e)
/-- the pair p without its \ -/
def vw_D (tv tc : Int → rf_T) (tm : Int → Int → rf_T) (S : vx_S) (p : dv_E) (A : rf_N) (c : List (Int × Int)) (B : rf_N) (e : List (Int × Int)) (L : Int) : Prop := True → vx_rd S p.1.1 p.1.2 p.2.1.1 p.2.1.2 p.2.2.1 A c B e L ∧ vx_2 tv tc tm S A c B e L ∧ ¬ vx_isl A ∧ ¬ vx_isl B
/-- what a step makes of the pile p :: r -/
def vw_ST (tv tc : Int → rf_T) (tm : Int → Int → rf_T) (S S' : vx_S) (p : dv_E) (r r' : List dv_E) : Prop := True → ∃ (A : rf_N) (c : List (Int × Int)) (B : rf_N) (e : List (Int × Int)) (L : Int), vw_D tv tc tm S p A c B e L ∧ ((r' = r ∧ vx_l2 (fun C => ∃ w, vw_wy S w A C ∨ vw_wy S w B C) S S') ∨ (S' = S ∧ vw_ne S A c B e ∧ ∃ (wa wb : List Int) (j : Nat) (k h : Int) (F : rf_N) (j' : Nat) (k' h' : Int) (F' : rf_N) (c' e' : List (Int × Int)) (mk : Int), vw_wy S wa A (rf_n j k h F .leaf) ∧ vw_wy S wb B (rf_n j' k' h' F' .leaf) ∧ (k ≠ 0 ∧ k ≠ 3 ∧ k' ≠ 0 ∧ k' ≠ 3) ∧ rf_len F = rf_len F' ∧ r' = dv_zp F F' c' e' L mk ++ r))
