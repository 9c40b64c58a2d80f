/-! ===== WHAT IS RIGHT, pure: names, patterns, types ===== -/
/-- the NAME a is that of a variable: how many are bound outside of it, its type -/
def px_vr (SN : Int → Int → Prop) : List (Int × qx_T) → Int → Nat → qx_T → Prop
  | [], _, _, _ => False
  | q :: Γ, a, k, x => (SN q.1 a ∧ k = Γ.length ∧ x = q.2) ∨ (¬ SN q.1 a ∧ px_vr SN Γ a k x)
def px_nv (SN : Int → Int → Prop) (Γ : List (Int × qx_T)) (a : Int) : Prop := ∀ q ∈ Γ, ¬ SN q.1 a
/-- that of the first one declared -/
def px_cf (SN : Int → Int → Prop) : List (Int × qx_T) → Int → Nat → qx_T → Prop
  | [], _, _, _ => False
  | q :: L, a, k, x => (SN q.1 a ∧ k = 0 ∧ x = q.2) ∨ (¬ SN q.1 a ∧ ∃ j, k = j + 1 ∧ px_cf SN L a j x)
/-- what the NAME a means: sort, which, type -/
def px_hd (SN : Int → Int → Prop) (C M Γ : List (Int × qx_T)) (a s : Int) (k : Nat) (u : qx_T) : Prop := (s = 2 ∧ px_vr SN Γ a k u) ∨ (s = 1 ∧ px_nv SN Γ a ∧ px_cf SN C a k u) ∨ (s = 3 ∧ px_nv SN Γ a ∧ px_nv SN C a ∧ px_cf SN M a k u)
theorem px_vr_fun {SN : Int → Int → Prop} {a : Int} : ∀ {Γ : List (Int × qx_T)} {k k' : Nat} {x x' : qx_T}, px_vr SN Γ a k x → px_vr SN Γ a k' x' → k = k' ∧ x = x'
  | [], _, _, _, _, h, _ => h.elim
  | q :: Γ, _, _, _, _, h, g => by
    rcases h with ⟨h1, h2, h3⟩ | ⟨h1, h2⟩ <;> rcases g with ⟨g1, g2, g3⟩ | ⟨g1, g2⟩
    · exact ⟨h2.trans g2.symm, h3.trans g3.symm⟩
    · exact absurd h1 g1
    · exact absurd g1 h1
    · exact px_vr_fun h2 g2
theorem px_cf_fun {SN : Int → Int → Prop} {a : Int} : ∀ {Γ : List (Int × qx_T)} {k k' : Nat} {x x' : qx_T}, px_cf SN Γ a k x → px_cf SN Γ a k' x' → k = k' ∧ x = x'
  | [], _, _, _, _, h, _ => h.elim
  | q :: Γ, _, _, _, _, h, g => by
    rcases h with ⟨h1, h2, h3⟩ | ⟨h1, j, h2, h3⟩ <;> rcases g with ⟨g1, g2, g3⟩ | ⟨g1, i, g2, g3⟩
    · exact ⟨h2.trans g2.symm, h3.trans g3.symm⟩
    · exact absurd h1 g1
    · exact absurd g1 h1
    · obtain ⟨rfl, rfl⟩ := px_cf_fun h3 g3
      exact ⟨by omega, rfl⟩
theorem px_vr_nv {SN : Int → Int → Prop} {a : Int} : ∀ {Γ : List (Int × qx_T)} {k : Nat} {x : qx_T}, px_vr SN Γ a k x → px_nv SN Γ a → False
  | [], _, _, h, _ => h
  | q :: Γ, _, _, h, g => by
    rcases h with ⟨h1, _⟩ | ⟨_, h2⟩
    · exact g q List.mem_cons_self h1
    · exact px_vr_nv h2 (fun p hp => g p (List.mem_cons_of_mem _ hp))
theorem px_cf_nv {SN : Int → Int → Prop} {a : Int} : ∀ {Γ : List (Int × qx_T)} {k : Nat} {x : qx_T}, px_cf SN Γ a k x → px_nv SN Γ a → False
  | [], _, _, h, _ => h
  | q :: Γ, _, _, h, g => by
    rcases h with ⟨h1, _⟩ | ⟨_, j, _, h2⟩
    · exact g q List.mem_cons_self h1
    · exact px_cf_nv h2 (fun p hp => g p (List.mem_cons_of_mem _ hp))
theorem px_vr_lt {SN : Int → Int → Prop} {a : Int} : ∀ {Γ : List (Int × qx_T)} {k : Nat} {x : qx_T}, px_vr SN Γ a k x → k < Γ.length
  | [], _, _, h => h.elim
  | q :: Γ, _, _, h => by
    rcases h with ⟨_, h2, _⟩ | ⟨_, h2⟩
    · rw [List.length_cons]
      omega
    · have := px_vr_lt h2
      rw [List.length_cons]
      omega
theorem px_hd_fun {SN : Int → Int → Prop} {C M Γ : List (Int × qx_T)} {a s s' : Int} {k k' : Nat} {u u' : qx_T} (h : px_hd SN C M Γ a s k u) (g : px_hd SN C M Γ a s' k' u') : s = s' ∧ k = k' ∧ u = u' := by
  rcases h with ⟨h1, h2⟩ | ⟨h1, h2, h3⟩ | ⟨h1, h2, h3, h4⟩ <;> rcases g with ⟨g1, g2⟩ | ⟨g1, g2, g3⟩ | ⟨g1, g2, g3, g4⟩
  · exact ⟨h1.trans g1.symm, px_vr_fun h2 g2⟩
  · exact (px_vr_nv h2 g2).elim
  · exact (px_vr_nv h2 g2).elim
  · exact (px_vr_nv g2 h2).elim
  · exact ⟨h1.trans g1.symm, px_cf_fun h3 g3⟩
  · exact (px_cf_nv h3 g3).elim
  · exact (px_vr_nv g2 h2).elim
  · exact (px_cf_nv g3 h3).elim
  · exact ⟨h1.trans g1.symm, px_cf_fun h4 g4⟩
/-- but for eta it is the variable v (by how many are bound outside of it); us: what is bound just outside -/
def px_pv (SN : Int → Int → Prop) : px_N → (List (Int × qx_T) → List Nat → Nat → Prop) × (List (Int × qx_T) → List Nat → Prop)
  | .leaf => (fun _ _ _ => False, fun _ us => us = [])
  | .inner g q _ f x => (fun Γ us v => (g = 0 ∧ (px_pv SN f).1 (q :: Γ) (us ++ [Γ.length]) v) ∨ (g ≠ 0 ∧ (∃ y, px_vr SN Γ q.1 v y) ∧ v ∉ us ∧ (px_pv SN f).2 Γ us), fun Γ us => ∃ u us', us = u :: us' ∧ ((g = 0 ∧ (px_pv SN f).1 (q :: Γ) ([] ++ [Γ.length]) u) ∨ (g ≠ 0 ∧ (∃ y, px_vr SN Γ q.1 u y) ∧ u ∉ ([] : List Nat) ∧ (px_pv SN f).2 Γ [])) ∧ (px_pv SN x).2 Γ us')
/-- an unknown's ARGs are distinct variables -/
def px_pt' (SN : Int → Int → Prop) (Γ : List (Int × qx_T)) (f : px_N) : Prop := ∃ vs, (px_pv SN f).2 Γ vs ∧ vs.Nodup
/-- it has this type, and is right; a row of ARGs takes a type to another -/
def px_wt (SN : Int → Int → Prop) (C M : List (Int × qx_T)) : px_N → (List (Int × qx_T) → qx_T → Prop) × (List (Int × qx_T) → qx_T → qx_T → Prop)
  | .leaf => (fun _ _ => False, fun _ u w => u = w)
  | .inner g q _ f x => (fun Γ y => (g = 0 ∧ qx_at q.2 ≤ 5 ∧ ∃ B, (px_wt SN C M f).1 (q :: Γ) B ∧ y = qx_a q.2 B) ∨ (g ≠ 0 ∧ ∃ s k u, px_hd SN C M Γ q.1 s k u ∧ (px_wt SN C M f).2 Γ u y ∧ (s = 3 → px_pt' SN Γ f)), fun Γ u w => ∃ A B, u = qx_a A B ∧ ((g = 0 ∧ qx_at q.2 ≤ 5 ∧ ∃ B, (px_wt SN C M f).1 (q :: Γ) B ∧ A = qx_a q.2 B) ∨ (g ≠ 0 ∧ ∃ s k u, px_hd SN C M Γ q.1 s k u ∧ (px_wt SN C M f).2 Γ u A ∧ (s = 3 → px_pt' SN Γ f))) ∧ (px_wt SN C M x).2 Γ B w)
theorem px_wt_c {SN : Int → Int → Prop} {C M Γ : List (Int × qx_T)} {g : Nat} {q : Int × qx_T} {u0 : Unit} {f x : px_N} {u w : qx_T} : (px_wt SN C M (.inner g q u0 f x)).2 Γ u w ↔ ∃ A B, u = qx_a A B ∧ (px_wt SN C M (.inner g q u0 f x)).1 Γ A ∧ (px_wt SN C M x).2 Γ B w := Iff.rfl
theorem qx_a_inj {x y x' y' : qx_T} (h : qx_a x y = qx_a x' y') : x = x' ∧ y = y' := by
  cases h
  exact ⟨rfl, rfl⟩
theorem px_wt_fun {SN : Int → Int → Prop} {C M : List (Int × qx_T)} : ∀ {n : px_N}, (∀ {Γ : List (Int × qx_T)} {y y' : qx_T}, (px_wt SN C M n).1 Γ y → (px_wt SN C M n).1 Γ y' → y = y') ∧ (∀ {Γ : List (Int × qx_T)} {u w w' : qx_T}, (px_wt SN C M n).2 Γ u w → (px_wt SN C M n).2 Γ u w' → w = w')
  | .leaf => ⟨fun h _ => h.elim, fun h g => h.symm.trans g⟩
  | .inner g q _ f x => by
    have hf := px_wt_fun (SN := SN) (C := C) (M := M) (n := f)
    have hx := px_wt_fun (SN := SN) (C := C) (M := M) (n := x)
    have h1 : ∀ {Γ : List (Int × qx_T)} {y y' : qx_T}, (px_wt SN C M (.inner g q () f x)).1 Γ y → (px_wt SN C M (.inner g q () f x)).1 Γ y' → y = y' := by
      intro Γ y y' h k
      rcases h with ⟨h1, h2, B, h3, h4⟩ | ⟨h1, s, j, u, h2, h3, _⟩ <;> rcases k with ⟨k1, k2, B', k3, k4⟩ | ⟨k1, s', j', u', k2, k3, _⟩
      · rw [h4, k4, hf.1 h3 k3]
      · exact absurd h1 k1
      · exact absurd k1 h1
      · obtain ⟨_, _, rfl⟩ := px_hd_fun h2 k2
        exact hf.2 h3 k3
    refine ⟨h1, ?_⟩
    intro Γ u w w' h k
    obtain ⟨A, B, a1, a2, a3⟩ := px_wt_c.mp h
    obtain ⟨A', B', b1, b2, b3⟩ := px_wt_c.mp k
    obtain ⟨rfl, rfl⟩ := qx_a_inj (a1.symm.trans b1)
    exact hx.2 a3 b3
/-- the items are right, those before them declared C and M and had e equations -/
def px_ck (SN : Int → Int → Prop) : List ((Int × Int × qx_T) × (px_N × px_N)) → List (Int × qx_T) → List (Int × qx_T) → Nat → Prop
  | [], _, _, _ => True
  | q :: l, C, M, e => (q.1.1 = 3 ∧ C.length < 8 ∧ px_nv SN C q.1.2.1 ∧ px_nv SN M q.1.2.1 ∧ qx_at q.1.2.2 ≤ 5 ∧ px_ck SN l (C ++ [q.1.2]) M e) ∨ (q.1.1 = 4 ∧ M.length < 5 ∧ px_nv SN C q.1.2.1 ∧ px_nv SN M q.1.2.1 ∧ qx_at q.1.2.2 ≤ 5 ∧ px_ck SN l C (M ++ [q.1.2]) e) ∨ (q.1.1 = 5 ∧ e < 4 ∧ (∃ x, (px_wt SN C M q.2.1).1 [] x ∧ (px_wt SN C M q.2.2).1 [] x) ∧ px_ck SN l C M (e + 1))
/-- types by their number: a number has one type -/
theorem qx_ty_fun {L R : Nat → Int} {N : Int} : ∀ {x y : qx_T} {t : Int}, qx_ty L R N x t → qx_ty L R N y t → x = y
  | .leaf, .leaf, _, _, _ => rfl
  | .leaf, .inner j k _ x y, t, h, g => by
    have h0 : t = 0 := h
    rcases g.2 with ⟨_, _, _, g⟩ | ⟨_, g, _⟩ <;> omega
  | .inner j k _ x y, .leaf, t, h, g => by
    have h0 : t = 0 := g
    rcases h.2 with ⟨_, _, _, h⟩ | ⟨_, h, _⟩ <;> omega
  | .inner j k _ x y, .inner j' k' _ x' y', t, h, g => by
    obtain ⟨h0, h⟩ := h
    obtain ⟨g0, g⟩ := g
    subst h0 g0
    rcases h with ⟨h1, h2, h3, h4⟩ | ⟨h1, h2, h3, h4⟩ <;> rcases g with ⟨g1, g2, g3, g4⟩ | ⟨g1, g2, g3, g4⟩
    · rw [h1, h2, h3, g1, g2, g3]
    · omega
    · omega
    · rw [h1, g1, qx_ty_fun h3 g3, qx_ty_fun h4 g4]
/-- its shape -/
theorem qx_ty_sh {L R : Nat → Int} {N : Int} (hN : 2 ≤ N) : ∀ {x : qx_T} {t : Int}, qx_ty L R N x t → rf_ty L R N (qx_sh x) t
  | .leaf, t, h => by
    have h0 : t = 0 := h
    exact ⟨by omega, by omega⟩
  | .inner j k _ x y, t, h => by
    rcases h.2 with ⟨h1, h2, h3, h4⟩ | ⟨h1, h2, h3, h4⟩
    · rw [h1]
      exact ⟨by omega, by omega⟩
    · rw [h1]
      exact ⟨⟨rfl, h2⟩, qx_ty_sh hN h3, qx_ty_sh hN h4⟩
theorem qx_sh_at : ∀ x : qx_T, rf_at (qx_sh x) = qx_at x
  | .leaf => rfl
  | .inner j k _ x y => by
    cases k with
    | true => rfl
    | false =>
      show rf_at (qx_sh x) + rf_at (qx_sh y) = qx_at x + qx_at y
      rw [qx_sh_at x, qx_sh_at y]
