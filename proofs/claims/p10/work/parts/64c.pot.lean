/-! ===== a pair is taken apart: what it may still take is less ===== -/
section
variable {S : vx_S} {AR : Nat → List Int} {bd : Int → rf_N}
theorem vw_hd_ls {t j : Nat} {k h : Int} {F : rf_N} {ls ls' : List Int} (h0 : k ≠ 0) (h3 : k ≠ 3) : vw bd AR t (rf_n j k h F .leaf) ls = vw bd AR t (rf_n j k h F .leaf) ls' := by
  cases t with
  | zero => rw [vw_0, vw_0]
  | succ t => rw [vw_hd h0 h3, vw_hd h0 h3]
theorem vw_hd_ge {t j : Nat} {k h : Int} {F : rf_N} {ls : List Int} (h0 : k ≠ 0) (h3 : k ≠ 3) : vw bd AR t F [] ≤ vw bd AR t (rf_n j k h F .leaf) ls ∧ (1 ≤ t → 1 + vw bd AR t F [] ≤ vw bd AR t (rf_n j k h F .leaf) ls) := by
  cases t with
  | zero =>
    rw [vw_0, vw_0]
    exact ⟨Nat.le_refl _, fun h => absurd h (by decide)⟩
  | succ t =>
    rw [vw_hd h0 h3]
    exact ⟨by omega, fun _ => Nat.le_refl _⟩
end
theorem vw_sm_0 : ∀ l : List rf_N, vw_sm (fun _ => 0) l = 0
  | [] => rfl
  | A :: l => by
    show 0 + vw_sm (fun _ => 0) l = 0
    rw [vw_sm_0]
/-- the head that is reached: the term itself, or what an unknown is given -/
theorem vw_way {S Sf : vx_S} {th : Int → rf_N} {w : List Int} {A C : rf_N} (hle : vx_le S Sf) (hC : ∃ (j : Nat) (k h : Int) (F : rf_N), C = rf_n j k h F .leaf ∧ k ≠ 3) (h : vw_wy S w A C) : A = C ∨ ∃ (j : Nat) (m : Int) (F : rf_N), A = rf_n j 3 m F .leaf ∧ vw_bd Sf m = C := by
  cases w with
  | nil => exact Or.inl h
  | cons m w =>
    obtain ⟨j, F, B, e, h1, h2, h3⟩ := h
    exact Or.inr ⟨j, m, F, h1, vw_bd_eq ⟨⟨w, B, e, hle.2.2.1 m B e h2, vw_wy_le hle h3⟩, hC⟩⟩
theorem vw_drop {tv tc : Int → rf_T} {tm : Int → Int → rf_T} {S Sf : vx_S} {n : Nat} {th : Int → rf_N} {p : dv_E} {A B : rf_N} {c e : List (Int × Int)} {L : Int} {f : Nat} (hD : vw_D tv tc tm S p A c B e L) (hO : vw_OK Sf n th p.1.1 p.2.1.1 f) : 1 ≤ f := by
  obtain ⟨hrd, h2, nA, nB⟩ := hD trivial
  obtain ⟨_, _, _, _, n1, _, sl, sr⟩ := hrd trivial
  obtain ⟨lt, t, s1, s2⟩ := h2 trivial
  have gA := (s1 trivial).1.2.1
  have gB := (s2 trivial).1.2.1
  rcases hO with ⟨a, b, h1, rfl⟩ | ⟨_, t, h1, rfl⟩
  · rw [(vw_sl sl).2.2, (vw_sl sr).2.2]
    by_cases q : a ≤ 2
    · have := vw_pos (bd := vw_bd Sf) (AR := Sf.2.2.2.2) (t := 6 - 2 * a) (ls := vw_bn n1 p.1.1 ++ []) (by omega) gA nA
      omega
    · have := vw_pos (bd := vw_bd Sf) (AR := Sf.2.2.2.2) (t := 6 - 2 * b) (ls := vw_bn n1 p.2.1.1 ++ []) (by omega) gB nB
      omega
  · rw [(vw_sl sl).2.2]
    exact vw_pos (by omega) gA nA
theorem vw_apart {tv tc : Int → rf_T} {tm : Int → Int → rf_T} {S Sf : vx_S} {n : Nat} {th : Int → rf_N} {p : dv_E} {r : List dv_E} {A B : rf_N} {c e c' e' : List (Int × Int)} {L mk : Int} {wa wb : List Int} {j j' : Nat} {k h k' h' : Int} {F F' : rf_N} {f f2 : Nat} (hle : vx_le S Sf) (hW : vx_W S) (hS : vx_So Sf th) (hpe : vx_pe th S.2.2.2.2 (dv_pe p)) (hmA : ∀ m, vx_mt m A → m < (n : Int)) (hmB : ∀ m, vx_mt m B → m < (n : Int)) (hD : vw_D tv tc tm S p A c B e L) (hne : vw_ne S A c B e) (hwa : vw_wy S wa A (rf_n j k h F .leaf)) (hwb : vw_wy S wb B (rf_n j' k' h' F' .leaf)) (hk : k ≠ 0 ∧ k ≠ 3 ∧ k' ≠ 0 ∧ k' ≠ 3) (hl : rf_len F = rf_len F') (hO : vw_OK Sf n th p.1.1 p.2.1.1 f) (hr : vw_PH Sf n th r f2) : ∃ g, g + 1 ≤ f ∧ vw_PH Sf n th (dv_zp F F' c' e' L mk ++ r) (g + f2) := by
  obtain ⟨hrd, h2, nA, nB⟩ := hD trivial
  obtain ⟨hiff, _, _, _, n1, _, sl, sr⟩ := hrd trivial
  obtain ⟨lt, ty, s1, s2⟩ := h2 trivial
  obtain ⟨⟨iA, gA, _⟩, _, ⟨_, ckA⟩, _⟩ := s1 trivial
  obtain ⟨⟨iB, gB, _⟩, _, ⟨_, ckB⟩, _⟩ := s2 trivial
  obtain ⟨k0, k3, k0', k3'⟩ := hk
  have hS0 := vx_So_le hW hle hS
  have hC : ∃ (i : Nat) (k1 h1 : Int) (F1 : rf_N), rf_n j k h F .leaf = rf_n i k1 h1 F1 .leaf ∧ k1 ≠ 3 := ⟨j, k, h, F, rfl, k3⟩
  have hC' : ∃ (i : Nat) (k1 h1 : Int) (F1 : rf_N), rf_n j' k' h' F' .leaf = rf_n i k1 h1 F1 .leaf ∧ k1 ≠ 3 := ⟨j', k', h', F', rfl, k3'⟩
  -- sizes
  have hpe' : vx_pe th S.2.2.2.2 ((A, dv_lk c), (B, dv_lk e), L) := (hiff th hS0).mp hpe
  have hzz : vx_zz th A = vx_zz th B := by
    have q := congrArg vx_sz hpe'
    rw [vx_sz_val (fun m => (hS0.1 m).1), vx_sz_val (fun m => (hS0.1 m).1)] at q
    exact q
  have zA := vw_wy_zz hS0 hwa
  have zB := vw_wy_zz hS0 hwb
  have zl := vx_sl_zz (th := th) sl
  have cz : ∀ X ∈ vx_el F, vx_zz th X < vx_zz th A := fun X hX => by
    have := vx_zz_lt (th := th) (j := j) (h := h) k3 hX
    omega
  have Nz : vw_N n th (vx_zz th A) ≤ vw_N n th (vx_zz th p.1.1) := vw_N_mono zl
  have lens : (vx_el F).length = (vx_el F').length := by rw [vx_el_len, vx_el_len, hl]
  obtain ⟨bl1, bc1, bv1⟩ := vw_sl (bd := vw_bd Sf) (AR := Sf.2.2.2.2) sl
  obtain ⟨bl2, bc2, bv2⟩ := vw_sl (bd := vw_bd Sf) (AR := Sf.2.2.2.2) sr
  have wA := vw_way (th := th) hle hC hwa
  have wB := vw_way (th := th) hle hC' hwb
  have mA : ∀ {i : Nat} {m : Int} {G : rf_N}, A = rf_n i 3 m G .leaf → 0 ≤ m ∧ m < (n : Int) ∧ vx_sz (th m) = vx_zz th A ∧ Sf.2.2.2.2 i = S.2.2.2.2 i ∧ ((S.2.2.2.2 i).length : Int) = S.2.2.1 m := fun {i m G} q => by
    have hm : vx_mt m A := by rw [q]; exact Or.inl ⟨rfl, rfl⟩
    refine ⟨(iA.1 m hm).1, hmA m hm, by rw [q, vx_zz_call], hle.2.2.2 i (iA.2.1 i (by rw [q]; exact List.mem_cons_self)), ?_⟩
    rw [q] at iA
    exact vx_in_len iA
  have mB : ∀ {i : Nat} {m : Int} {G : rf_N}, B = rf_n i 3 m G .leaf → 0 ≤ m ∧ m < (n : Int) ∧ vx_sz (th m) = vx_zz th B ∧ Sf.2.2.2.2 i = S.2.2.2.2 i ∧ ((S.2.2.2.2 i).length : Int) = S.2.2.1 m := fun {i m G} q => by
    have hm : vx_mt m B := by rw [q]; exact Or.inl ⟨rfl, rfl⟩
    refine ⟨(iB.1 m hm).1, hmB m hm, by rw [q, vx_zz_call], hle.2.2.2 i (iB.2.1 i (by rw [q]; exact List.mem_cons_self)), ?_⟩
    rw [q] at iB
    exact vx_in_len iB
  -- on the diagonal
  have diag : ∀ t, F = F' → (∀ X ∈ vx_el F, vw_N n th (vx_zz th X) + 1 ≤ t) → vw (vw_bd Sf) Sf.2.2.2.2 t (rf_n j k h F .leaf) [] ≤ f → 1 ≤ t → ∃ g, g + 1 ≤ f ∧ vw_PH Sf n th (dv_zp F F' c' e' L mk ++ r) (g + f2) := fun t eF hN hf ht => by
    refine ⟨vw_sm (fun X => vw (vw_bd Sf) Sf.2.2.2.2 t X []) (vx_el F) + vw_sm (fun _ => 0) (vx_el F'), ?_, vw_PH_zip hr lens (fun i X Y eX eY => Or.inr ?_)⟩
    · rw [vw_sm_0, ← vw_row]
      have := (vw_hd_ge (bd := vw_bd Sf) (AR := Sf.2.2.2.2) (t := t) (j := j) (h := h) (F := F) (ls := []) k0 k3).2 ht
      omega
    · rw [← eF, eX] at eY
      have eXY := Option.some.inj eY
      exact ⟨eXY, t, hN X (List.mem_of_getElem? eX), rfl⟩
  -- off the diagonal
  have off : ∀ a b, (∀ X ∈ vx_el F, a + b + vw_N n th (vx_zz th X) ≤ 5) → a + b ≤ 5 → vw (vw_bd Sf) Sf.2.2.2.2 (6 - 2 * a) (rf_n j k h F .leaf) [] + vw (vw_bd Sf) Sf.2.2.2.2 (6 - 2 * b) (rf_n j' k' h' F' .leaf) [] ≤ f → ∃ g, g + 1 ≤ f ∧ vw_PH Sf n th (dv_zp F F' c' e' L mk ++ r) (g + f2) := fun a b hN hab hf => by
    refine ⟨vw_sm (fun X => vw (vw_bd Sf) Sf.2.2.2.2 (6 - 2 * a) X []) (vx_el F) + vw_sm (fun X => vw (vw_bd Sf) Sf.2.2.2.2 (6 - 2 * b) X []) (vx_el F'), ?_, vw_PH_zip hr lens (fun i X Y eX eY => Or.inl ⟨a, b, hN X (List.mem_of_getElem? eX), rfl⟩)⟩
    rw [← vw_row, ← vw_row]
    obtain ⟨p1, p2⟩ := vw_hd_ge (bd := vw_bd Sf) (AR := Sf.2.2.2.2) (t := 6 - 2 * a) (j := j) (h := h) (F := F) (ls := []) k0 k3
    obtain ⟨p3, p4⟩ := vw_hd_ge (bd := vw_bd Sf) (AR := Sf.2.2.2.2) (t := 6 - 2 * b) (j := j') (h := h') (F := F') (ls := []) k0' k3'
    by_cases q : a ≤ 2
    · have := p2 (by omega)
      omega
    · have := p4 (by omega)
      omega
  rcases hO with ⟨a, b, hab, rfl⟩ | ⟨ep, t, ht, rfl⟩
  · rw [bv1, bv2] at diag off
    rw [List.append_nil, List.append_nil] at diag off
    rw [bv1, bv2, List.append_nil, List.append_nil]
    rcases wA with eA | ⟨i, m, G, eA, bA⟩
    · rcases wB with eB | ⟨i', m', G', eB, bB⟩
      · refine off a b (fun X hX => ?_) (by omega) ?_
        · have := vw_N_mono (n := n) (th := th) (Nat.le_of_lt (cz X hX))
          omega
        · rw [eA, eB, vw_hd_ls (ls := vw_bn n1 p.1.1) (ls' := []) k0 k3, vw_hd_ls (ls := vw_bn n1 p.2.1.1) (ls' := []) k0' k3']
          exact Nat.le_refl _
      · obtain ⟨m0, mn, ms, _⟩ := mB eB
        refine off a (b + 1) (fun X hX => ?_) ?_ ?_
        · have := vw_N_lt (n := n) (th := th) m0 mn (cz X hX) (by omega)
          omega
        · have := vw_N_lt (n := n) (th := th) (z' := 0) m0 mn (z := vx_zz th A) (by rw [eA, vx_zz_in, if_neg k3]; omega) (by omega)
          omega
        · rw [eA, eB, vw_hd_ls (ls := vw_bn n1 p.1.1) (ls' := []) k0 k3, ← bB, show 6 - 2 * (b + 1) = 6 - 2 * b - 2 by omega]
          have := vw_call (bd := vw_bd Sf) (AR := Sf.2.2.2.2) (t := 6 - 2 * b) (j := i') (m := m') (F := G') (ls := vw_bn n1 p.2.1.1)
          omega
    · obtain ⟨m0, mn, ms, ear, lar⟩ := mA eA
      have hz0 : ∃ z', z' < vx_zz th A := ⟨0, by rw [← zA, vx_zz_in, if_neg k3]; omega⟩
      obtain ⟨z0, hz0⟩ := hz0
      rcases wB with eB | ⟨i', m', G', eB, bB⟩
      · refine off (a + 1) b (fun X hX => ?_) ?_ ?_
        · have := vw_N_lt (n := n) (th := th) m0 mn (cz X hX) ms
          omega
        · have := vw_N_lt (n := n) (th := th) m0 mn hz0 ms
          omega
        · rw [eA, eB, vw_hd_ls (ls := vw_bn n1 p.2.1.1) (ls' := []) k0' k3', ← bA, show 6 - 2 * (a + 1) = 6 - 2 * a - 2 by omega]
          have := vw_call (bd := vw_bd Sf) (AR := Sf.2.2.2.2) (t := 6 - 2 * a) (j := i) (m := m) (F := G) (ls := vw_bn n1 p.1.1)
          omega
      · obtain ⟨m0', mn', ms', ear', lar'⟩ := mB eB
        by_cases em : m = m'
        · subst em
          have eC : rf_n j k h F .leaf = rf_n j' k' h' F' .leaf := bA.symm.trans bB
          have eF : F = F' := by
            injection eC
          have bt : ∀ X ∈ vx_el F, vw_N n th (vx_zz th X) + 1 ≤ vw_N n th (vx_zz th A) := fun X hX => vw_N_lt m0 mn (cz X hX) ms
          have N1 := vw_N_lt (n := n) (th := th) m0 mn hz0 ms
          rw [eA, eB] at diag ⊢
          have c1 := vw_call (bd := vw_bd Sf) (AR := Sf.2.2.2.2) (t := 6 - 2 * a) (j := i) (m := m) (F := G) (ls := vw_bn n1 p.1.1)
          have c2 := vw_call (bd := vw_bd Sf) (AR := Sf.2.2.2.2) (t := 6 - 2 * b) (j := i') (m := m) (F := G') (ls := vw_bn n1 p.2.1.1)
          rcases Nat.lt_trichotomy a b with q | q | q
          · refine diag (6 - 2 * a - 2) eF (fun X hX => ?_) (by rw [← bA]; omega) (by omega)
            have := bt X hX
            omega
          · subst q
            refine diag (6 - 2 * a - 1) eF (fun X hX => ?_) ?_ (by omega)
            · have := bt X hX
              omega
            · rw [← bA]
              by_cases b1 : vw_br Sf.2.2.2.2 (vw_bn n1 p.1.1) i = true
              · by_cases b2 : vw_br Sf.2.2.2.2 (vw_bn n1 p.2.1.1) i' = true
                · exfalso
                  refine hne i i' m G G' eA eB ?_
                  have := vw_bare (AR := Sf.2.2.2.2) (j := i) (j' := i') bc1 bc2 (ckA trivial).1 (ckB trivial).1 (by omega) (by rw [ear, ear']; omega) b1 b2
                  rw [ear, ear'] at this
                  exact this
                · have := vw_callx (bd := vw_bd Sf) (AR := Sf.2.2.2.2) (t := 6 - 2 * a) (j := i') (m := m) (F := G') (ls := vw_bn n1 p.2.1.1) b2
                  omega
              · have := vw_callx (bd := vw_bd Sf) (AR := Sf.2.2.2.2) (t := 6 - 2 * a) (j := i) (m := m) (F := G) (ls := vw_bn n1 p.1.1) b1
                omega
          · refine diag (6 - 2 * b - 2) eF (fun X hX => ?_) (by rw [← bA]; omega) (by omega)
            have := bt X hX
            omega
        · refine off (a + 1) (b + 1) (fun X hX => ?_) ?_ ?_
          · have := vw_N_lt2 (n := n) (th := th) em m0 mn m0' mn' (cz X hX) ms (by omega)
            omega
          · have := vw_N_lt2 (n := n) (th := th) em m0 mn m0' mn' hz0 ms (by omega)
            omega
          · rw [eA, eB, ← bA, ← bB, show 6 - 2 * (a + 1) = 6 - 2 * a - 2 by omega, show 6 - 2 * (b + 1) = 6 - 2 * b - 2 by omega]
            have c1 := vw_call (bd := vw_bd Sf) (AR := Sf.2.2.2.2) (t := 6 - 2 * a) (j := i) (m := m) (F := G) (ls := vw_bn n1 p.1.1)
            have c2 := vw_call (bd := vw_bd Sf) (AR := Sf.2.2.2.2) (t := 6 - 2 * b) (j := i') (m := m') (F := G') (ls := vw_bn n1 p.2.1.1)
            omega
  · have eAB : A = B := by
      rw [← ep] at sr
      exact vx_sl_fun sl sr
    have eC : rf_n j k h F .leaf = rf_n j' k' h' F' .leaf := vw_wy_fun hC hC' hwa (by rw [eAB]; exact hwb)
    have eF : F = F' := by
      injection eC
    rw [bv1, List.append_nil] at diag
    rw [bv1, List.append_nil]
    rcases wA with eA | ⟨i, m, G, eA, bA⟩
    · refine diag t eF (fun X hX => ?_) ?_ (by omega)
      · have := vw_N_mono (n := n) (th := th) (Nat.le_of_lt (cz X hX))
        omega
      · rw [eA, vw_hd_ls (ls := vw_bn n1 p.1.1) (ls' := []) k0 k3]
        exact Nat.le_refl _
    · obtain ⟨m0, mn, ms, ear, lar⟩ := mA eA
      refine diag (t - 1) eF (fun X hX => ?_) ?_ ?_
      · have := vw_N_lt (n := n) (th := th) m0 mn (cz X hX) ms
        omega
      · rw [eA, ← bA]
        refine vw_callx (fun b1 => ?_)
        refine hne i i m G G eA (by rw [← eAB]; exact eA) ?_
        have := vw_bare (AR := Sf.2.2.2.2) (j := i) (j' := i) bc1 bc2 (ckA trivial).1 (ckB trivial).1 (by omega) rfl b1 (by rw [← ep]; exact b1)
        rw [ear] at this
        exact this
      · have := vw_N_lt (n := n) (th := th) m0 mn (z' := 0) (z := vx_zz th A) (by rw [← zA, vx_zz_in, if_neg k3]; omega) ms
        omega
