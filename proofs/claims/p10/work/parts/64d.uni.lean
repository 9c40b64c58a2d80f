/-! ===== parts of the text's sides ===== -/
def vw_su (C : rf_N) : rf_N → Prop
  | .leaf => False
  | .inner j q _ F X => C = .inner j q () F .leaf ∨ (q.1 ≠ 3 ∧ vw_su C F) ∨ vw_su C X
theorem vw_su_el {C : rf_N} : ∀ {F : rf_N}, C ∈ vx_el F → vw_su C F
  | .leaf, h => absurd h List.not_mem_nil
  | .inner j q u F X, h => by
    rcases List.mem_cons.mp h with h | h
    · exact Or.inl h
    · exact Or.inr (Or.inr (vw_su_el h))
theorem vw_su_self {C : rf_N} (h : vx_sg C) : vw_su C C := by
  obtain ⟨j, k, hh, F, rfl⟩ := h
  exact Or.inl rfl
theorem vw_su_t {C D : rf_N} (hD : vx_sg D) (h1 : vw_su C D) : ∀ {T : rf_N}, vw_su D T → vw_su C T
  | .leaf, h => h.elim
  | .inner j q u F X, h => by
    rcases h with h | ⟨h3, h⟩ | h
    · rw [h] at h1
      rcases h1 with h1 | h1 | h1
      · exact Or.inl h1
      · exact Or.inr (Or.inl h1)
      · exact h1.elim
    · exact Or.inr (Or.inl ⟨h3, vw_su_t hD h1 h⟩)
    · exact Or.inr (Or.inr (vw_su_t hD h1 h))
theorem vw_su_mt {m : Int} {C : rf_N} (hm : vx_mt m C) : ∀ {T : rf_N}, vw_su C T → vx_mt m T
  | .leaf, h => h.elim
  | .inner j q u F X, h => by
    rcases h with h | ⟨h3, h⟩ | h
    · rw [h] at hm
      rcases hm with hm | hm | hm
      · exact Or.inl hm
      · exact Or.inr (Or.inl hm)
      · exact hm.elim
    · exact Or.inr (Or.inl ⟨h3, vw_su_mt hm h⟩)
    · exact Or.inr (Or.inr (vw_su_mt hm h))
/-- the text's equations: both sides -/
abbrev vw_L : Type := List (rf_N × rf_N)
def vw_M (l : vw_L) (C : rf_N) : Prop := ∃ q ∈ l, vw_su C q.1 ∨ vw_su C q.2
theorem vw_M_t {l : vw_L} {C D : rf_N} (hD : vx_sg D) (h1 : vw_su C D) (h : vw_M l D) : vw_M l C := by
  obtain ⟨q, hq, h⟩ := h
  exact ⟨q, hq, h.imp (vw_su_t hD h1) (vw_su_t hD h1)⟩
theorem vw_M_sl {l : vw_L} : ∀ {n : Nat} {A A' : rf_N} {c c' : List (Int × Int)} {L : Int}, vx_sg A' → vx_sl n A c L A' c' → vw_M l A → vw_M l A'
  | 0, A, A', c, c', L, _, ⟨h1, _⟩, h => by
    rw [← h1]
    exact h
  | n + 1, A, A', c, c', L, hs, ⟨j, x, F, e, h1⟩, h => by
    have sF : vx_sg F := by
      cases n with
      | zero =>
        have e1 : F = A' := h1.1
        rw [e1]
        exact hs
      | succ n =>
        obtain ⟨j', x', F', e', _⟩ := h1
        exact ⟨j', 0, x', F', e'⟩
    exact vw_M_sl hs h1 (vw_M_t (D := A) ⟨j, 0, x, F, e⟩ (by rw [e]; exact Or.inr (Or.inl ⟨vx_03, vw_su_self sF⟩)) h)
theorem vw_wy_end {S : vx_S} : ∀ {w : List Int} {A C : rf_N}, vw_wy S w A C → A = C ∨ ∃ m e, S.2.2.2.1 m = some (C, e)
  | [], _, _, h => Or.inl h
  | m :: w, A, C, ⟨j, F, B, e, _, h2, h3⟩ => by
    rcases vw_wy_end h3 with h | h
    · exact Or.inr ⟨m, e, by rw [h2, h]⟩
    · exact Or.inr h
/-- what all sides may take at most -/
noncomputable def vw_F (S : vx_S) : vw_L → Nat
  | [] => 0
  | q :: l => vw (vw_bd S) S.2.2.2.2 6 q.1 [] + vw (vw_bd S) S.2.2.2.2 6 q.2 [] + vw_F S l
/-- the bodies are parts of the text -/
def vw_B (l : vw_L) (S : vx_S) : Prop := ∀ u C e, S.2.2.2.1 u = some (C, e) → vx_isc C ∨ vw_M l C
/-- x turns are done; what is left -/
def vw_TI (l : vw_L) (n : Nat) (Qs : (Int → rf_N) → Prop) (x : Nat) (S : vx_S) (r : List dv_E) : Prop := True → (∀ p ∈ r, vw_M l p.1.1 ∧ vw_M l p.2.1.1) ∧ vw_B l S ∧ ∀ Sf th, vx_le S Sf → vx_So Sf th → Qs th → ∃ f, vw_PH Sf n th r f ∧ x + f ≤ vw_F Sf l
theorem vw_M_zp {l : vw_L} {j j' : Nat} {k h k' h' L mk : Int} {F F' : rf_N} {c e : List (Int × Int)} (h3 : k ≠ 3) (h3' : k' ≠ 3) (hA : vw_M l (rf_n j k h F .leaf)) (hB : vw_M l (rf_n j' k' h' F' .leaf)) : ∀ p ∈ dv_zp F F' c e L mk, vw_M l p.1.1 ∧ vw_M l p.2.1.1 := by
  have key : ∀ (a b : List rf_N), (∀ X ∈ a, X ∈ vx_el F) → (∀ X ∈ b, X ∈ vx_el F') → ∀ p ∈ List.zipWith (fun a b => (((a, c), (b, e), L, mk) : dv_E)) a b, vw_M l p.1.1 ∧ vw_M l p.2.1.1 := by
    intro a
    induction a with
    | nil =>
      intro b _ _ p hp
      rw [List.zipWith_nil_left] at hp
      exact absurd hp List.not_mem_nil
    | cons X a ih =>
      intro b ha hb p hp
      cases b with
      | nil =>
        rw [List.zipWith_nil_right] at hp
        exact absurd hp List.not_mem_nil
      | cons Y b =>
        rw [List.zipWith_cons_cons] at hp
        rcases List.mem_cons.mp hp with hp | hp
        · rw [hp]
          exact ⟨vw_M_t ⟨j, k, h, F, rfl⟩ (Or.inr (Or.inl ⟨h3, vw_su_el (ha X List.mem_cons_self)⟩)) hA, vw_M_t ⟨j', k', h', F', rfl⟩ (Or.inr (Or.inl ⟨h3', vw_su_el (hb Y List.mem_cons_self)⟩)) hB⟩
        · exact ih b (fun Z hZ => ha Z (List.mem_cons_of_mem _ hZ)) (fun Z hZ => hb Z (List.mem_cons_of_mem _ hZ)) p hp
  exact key _ _ (fun _ h => h) (fun _ h => h)
/-- a turn more -/
theorem vw_TI_st {tv tc : Int → rf_T} {tm : Int → Int → rf_T} {l : vw_L} {n0 : Int} {Qs : (Int → rf_N) → Prop} {x : Nat} {S S' : vx_S} {p : dv_E} {r r' : List dv_E} (hn : ∀ m C, vw_M l C → vx_mt m C → m < n0) (n00 : 0 ≤ n0) (hW : vx_W S) (hle : vx_le S S') (hJ : ∀ th, vx_So S th → Qs th → vx_pe th S.2.2.2.2 (dv_pe p)) (h : vw_TI l n0.toNat Qs x S (p :: r)) (hT : vw_ST tv tc tm S S' p r r') : vw_TI l n0.toNat Qs (x + 1) S' r' := fun _ => by
  obtain ⟨h1, h2, h3⟩ := h trivial
  obtain ⟨A, c, B, e, L, hD, hT⟩ := hT trivial
  obtain ⟨hrd, hv2, nA, nB⟩ := hD trivial
  obtain ⟨_, _, _, _, n1, _, sl, sr⟩ := hrd trivial
  obtain ⟨lt, ty, s1, s2⟩ := hv2 trivial
  have gA := (s1 trivial).1.2.1
  have gB := (s2 trivial).1.2.1
  obtain ⟨mpA, mpB⟩ := h1 p List.mem_cons_self
  have mA := vw_M_sl gA sl mpA
  have mB := vw_M_sl gB sr mpB
  have en : ((n0.toNat : Nat) : Int) = n0 := Int.toNat_of_nonneg n00
  have wyM : ∀ {w : List Int} {X C : rf_N}, vw_M l X → vw_wy S w X C → vx_isc C ∨ vw_M l C := fun {w X C} hX hw => by
    rcases vw_wy_end hw with q | ⟨m, em, q⟩
    · rw [← q]
      exact Or.inr hX
    · exact h2 m C em q
  rcases hT with ⟨rfl, hl2⟩ | ⟨rfl, hne, wa, wb, j, k, h, F, j', k', h', F', c', e', mk, hwa, hwb, hk, hlen, rfl⟩
  · refine ⟨fun q hq => h1 q (List.mem_cons_of_mem _ hq), fun u C eC hu => ?_, fun Sf th hf hSf hQ => ?_⟩
    · rcases hl2.2 u C eC hu with q | q | ⟨w, q | q⟩
      · exact h2 u C eC q
      · exact Or.inl q
      · exact wyM mA q
      · exact wyM mB q
    · obtain ⟨f, ⟨f1, f2, o1, o2, o3⟩, hf2⟩ := h3 Sf th (vx_le_trans hle hf) hSf hQ
      have := vw_drop hD o1
      exact ⟨f2, o2, by omega⟩
  · obtain ⟨k0, k3, k0', k3'⟩ := hk
    have hA : vw_M l (rf_n j k h F .leaf) := by
      rcases wyM mA hwa with ⟨i, m, G, q⟩ | q
      · injection q with _ q2
        exact absurd (Prod.mk.inj q2).1 k3
      · exact q
    have hB : vw_M l (rf_n j' k' h' F' .leaf) := by
      rcases wyM mB hwb with ⟨i, m, G, q⟩ | q
      · injection q with _ q2
        exact absurd (Prod.mk.inj q2).1 k3'
      · exact q
    refine ⟨fun q hq => ?_, h2, fun Sf th hf hSf hQ => ?_⟩
    · rcases List.mem_append.mp hq with hq | hq
      · exact vw_M_zp k3 k3' hA hB q hq
      · exact h1 q (List.mem_cons_of_mem _ hq)
    · obtain ⟨f, ⟨f1, f2, o1, o2, o3⟩, hf2⟩ := h3 Sf th hf hSf hQ
      obtain ⟨g, g1, g2⟩ := vw_apart (c' := c') (e' := e') (mk := mk) hf hW hSf (hJ th (vx_So_le hW hf hSf) hQ) (fun m hm => by rw [en]; exact hn m A mA hm) (fun m hm => by rw [en]; exact hn m B mB hm) hD hne hwa hwb ⟨k0, k3, k0', k3'⟩ hlen o1 o2
      exact ⟨g + f2, g2, by omega⟩
/-- before the first -/
theorem vw_TI_0 {l : vw_L} {n0 : Int} {Qs : (Int → rf_N) → Prop} {S : vx_S} {r : List dv_E} (hn : n0.toNat ≤ 5) (hr : r.map (fun p => (p.1.1, p.2.1.1)) = l) (hg : ∀ q ∈ l, vx_sg q.1 ∧ vx_sg q.2) (hb : ∀ u, S.2.2.2.1 u = none) : vw_TI l n0.toNat Qs 0 S r := fun _ => by
  refine ⟨fun p hp => ?_, (by intro u C e hu; rw [hb u] at hu; cases hu), fun Sf th _ _ _ => ⟨vw_F Sf l, ?_, (by omega)⟩⟩
  · have hq : (p.1.1, p.2.1.1) ∈ l := by
      rw [← hr]
      exact List.mem_map_of_mem hp
    exact ⟨⟨_, hq, Or.inl (vw_su_self (hg _ hq).1)⟩, ⟨_, hq, Or.inr (vw_su_self (hg _ hq).2)⟩⟩
  · clear hg
    subst hr
    induction r with
    | nil => trivial
    | cons p r ih =>
      refine ⟨_, _, Or.inl ⟨0, 0, ?_, rfl⟩, ih, Nat.le_refl _⟩
      have := vw_N_n (n := n0.toNat) (th := th) (z := vx_zz th p.1.1)
      omega
