/-! ===== one term on its way down, without its type ===== -/
def wd_sd (S : vx_S) (L : Int) (A : rf_N) (c : List (Int × Int)) : Prop := True → (vx_in S A ∧ vx_sg A) ∧ (0 ≤ L ∧ vx_ck L c) ∧ (∀ z, vx_fv (vx_U S) S.2.2.2.2 z A → 0 ≤ dv_lk c z) ∧ vx_nb A (fun z => z ∈ c.map Prod.fst)
theorem wd_sd_lam {S : vx_S} {L : Int} {j : Nat} {x : Int} {F : rf_N} {c : List (Int × Int)} (hF : vx_sg F) (h : wd_sd S L (rf_n j 0 x F .leaf) c) : wd_sd S (L + 1) F ((x, L) :: c) := fun _ => by
  obtain ⟨⟨a1, _⟩, ⟨c1, c2⟩, d, e⟩ := h trivial
  have e' : (0 ≤ x ∧ x ∉ c.map Prod.fst) ∧ vx_nb F (fun z => z = x ∨ z ∈ c.map Prod.fst) := by
    rcases e.1 with ⟨_, q1, q2⟩ | ⟨q, _⟩ | q
    · exact ⟨q1, q2⟩
    · exact absurd rfl q
    · exact absurd q vx_03
  refine ⟨⟨vx_in_lam a1, hF⟩, ⟨by omega, vx_ck_up c1 e'.1.1 c2 e'.1.2⟩, fun z hz => ?_, ?_⟩
  · rw [dv_lk_c]
    dsimp only
    by_cases q : x = z
    · rw [if_pos q]
      exact c1
    · rw [if_neg q]
      exact d z (Or.inl (Or.inl ⟨rfl, fun w => q w.symm, hz⟩))
  · refine vx_nb_mono (fun z hz => ?_) e'.2
    rw [List.map_cons] at hz
    exact List.mem_cons.mp hz
theorem wd_sd_el {S : vx_S} {L : Int} {j : Nat} {k h : Int} {F A : rf_N} {c : List (Int × Int)} (h0 : k ≠ 0) (h3 : k ≠ 3) (hA : A ∈ vx_el F) (hh : wd_sd S L (rf_n j k h F .leaf) c) : wd_sd S L A c := fun _ => by
  obtain ⟨⟨a1, _⟩, cc, d, e⟩ := hh trivial
  refine ⟨⟨vx_in_el h3 a1 hA, vx_el_sg hA⟩, cc, fun z hz => d z (Or.inl (Or.inr (Or.inr ⟨h0, h3, Or.inr (vx_fv_el.mpr ⟨A, hA, hz⟩)⟩))), ?_⟩
  rcases e.1 with ⟨q, _⟩ | ⟨_, _, q⟩ | q
  · exact absurd q h0
  · exact vx_nb_el q hA
  · exact absurd q h3
theorem wd_sd_open {S : vx_S} {L : Int} {j : Nat} {u : Int} {F : rf_N} {c : List (Int × Int)} (hu : S.2.2.2.1 u = none) (hl : ((S.2.2.2.2 j).length : Int) = S.2.2.1 u) (hh : wd_sd S L (rf_n j 3 u F .leaf) c) : ∀ y ∈ S.2.2.2.2 j, 0 ≤ dv_lk c y := fun y hy => by
  obtain ⟨_, _, d, _⟩ := hh trivial
  obtain ⟨i, h1, h2⟩ := List.getElem_of_mem hy
  refine d y (Or.inl (Or.inr (Or.inl ⟨rfl, i, ?_, (vx_U_cl S).1 u i hu (by omega) (by omega)⟩)))
  rw [List.getElem?_eq_getElem h1, h2]
theorem wd_sd_body {tv tc : Int → rf_T} {tm : Int → Int → rf_T} {S : vx_S} {L : Int} {PR : Int → List (Int × Int)} {j : Nat} {m : Int} {F B : rf_N} {e : Int → Int} {c : List (Int × Int)} (hT : vx_TS tv tc tm S PR) (hb : S.2.2.2.1 m = some (B, e)) (hn : (S.2.2.2.2 j).Nodup) (hh : wd_sd S L (rf_n j 3 m F .leaf) c) : wd_sd S L B (dv_in (PR m) (S.2.2.2.2 j) c) := fun _ => by
  obtain ⟨⟨a1, _⟩, ⟨c1, c2⟩, d, _⟩ := hh trivial
  obtain ⟨⟨W, B1, Sc, _⟩, T⟩ := hT trivial
  obtain ⟨e0, ⟨e1, e2⟩, e3, e4, e5, e6⟩ := T m B e hb
  have hl := vx_in_len a1
  have e3' : ∀ q ∈ PR m, 0 ≤ q.2 ∧ q.2 < ((S.2.2.2.2 j).length : Int) := fun q hq => by
    have := (e3 q hq).2
    omega
  obtain ⟨i1, i2, i3⟩ := dv_in_lk (c := c) e4 e3'
  obtain ⟨⟨w1, w2⟩, w3, _⟩ := W m B e hb
  have tyv : ∀ z, 0 ≤ dv_lk (PR m).reverse z → ∃ y, (S.2.2.2.2 j)[(dv_lk (PR m).reverse z).toNat]? = some y ∧ dv_lk (dv_in (PR m) (S.2.2.2.2 j) c) z = dv_lk c y := fun z hz => by
    have hlt := i3 z
    have hi : (dv_lk (PR m).reverse z).toNat < (S.2.2.2.2 j).length := by omega
    refine ⟨_, List.getElem?_eq_getElem hi, ?_⟩
    rw [i1 z hz, vx_getD_map _ _ _ hi, vx_gD hi]
  refine ⟨⟨w3, e1⟩, ⟨c1, vx_ck_in c1 c2 e4 e5 e3' (fun q hq => (e3 q hq).2.2.2) hn⟩, fun z hz => ?_, ?_⟩
  · have u1 := Sc m B e z hb hz
    have u2 := (vx_U_cl S).2 m B e z hb hz
    rw [e0] at u1 u2
    obtain ⟨y, y1, y3⟩ := tyv z u1
    rw [y3]
    refine d y (Or.inl (Or.inr (Or.inl ⟨rfl, _, y1, ?_⟩)))
    rw [Int.toNat_of_nonneg u1]
    exact u2
  · refine vx_nb_mono (fun z hz => ?_) e6
    unfold dv_in at hz
    rw [List.map_reverse, List.mem_reverse, List.map_map] at hz
    exact hz
def wd_ks (S : vx_S) (bs : Nat) (L : Int) : List dv_K → Prop
  | [] => True
  | k :: r => (wd_sd S k.2.1 k.1.1 k.1.2 ∧ L ≤ k.2.1 ∧ vx_c1 S bs k.1.1 k.2.2 k.2.1 r.length) ∧ wd_ks S bs L r
theorem wd_ks_wz {S : vx_S} {bs : Nat} {L L' mk : Int} {c : List (Int × Int)} {ws : List dv_K} (hL : L ≤ L') (hks : wd_ks S bs L ws) : ∀ {l : List rf_N}, l.length ≤ 4 → (∀ A ∈ l, wd_sd S L' A c ∧ ∀ i', i' ≤ ws.length + 3 → vx_c1 S bs A mk L' i') → wd_ks S bs L (l.map (fun a => ((a, c), L', mk)) ++ ws)
  | [], _, _ => hks
  | A :: l, h4, h => by
    rw [List.length_cons] at h4
    refine ⟨⟨(h A List.mem_cons_self).1, hL, (h A List.mem_cons_self).2 _ ?_⟩, wd_ks_wz hL hks (by omega) (fun B hB => h B (List.mem_cons_of_mem _ hB))⟩
    show (l.map _ ++ ws).length ≤ ws.length + 3
    rw [List.length_append, List.length_map]
    omega
