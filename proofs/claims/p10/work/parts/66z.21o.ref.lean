/-! ===== the reference: a long form at its end ===== -/
theorem rf_xu_new {s t : sx_S} (hF : cx_F [(66, 66), (106, 106)] s t) (hf : rf_f [58] s t) (h58 : t.1 66 58 = s.1 66 58 + 1) (ha : rf_ag 106 106 (s.1 66 58) s t) : rf_xu s t := by
  refine ⟨fun j => ⟨Int.le_of_eq (hf 9 rfl).symm, fun _ => ⟨by rw [(hF.same 72 rfl).2], by rw [(hF.same 73 rfl).2]⟩⟩, fun j => ⟨⟨by omega, Int.le_of_eq (hf 56 rfl).symm, Int.le_of_eq (hf 50 rfl).symm, hf 42 rfl, hf 45 rfl⟩, fun hj => ha 106 j (by omega) (by omega) hj, fun _ => by rw [(hF.same 105 rfl).2], fun _ => by rw [(hF.same 104 rfl).2], by rw [(hF.same 96 rfl).2], by rw [(hF.same 123 rfl).2]⟩⟩
theorem rf_xu_make {s t : sx_S} (hF : cx_F [(66, 66), (100, 103)] s t) (hf : rf_f [50] s t) (h50 : t.1 66 50 = s.1 66 50 + 1) : rf_xu s t := by
  refine ⟨fun j => ⟨Int.le_of_eq (hf 9 rfl).symm, fun _ => ⟨by rw [(hF.same 72 rfl).2], by rw [(hF.same 73 rfl).2]⟩⟩, fun j => ⟨⟨Int.le_of_eq (hf 58 rfl).symm, Int.le_of_eq (hf 56 rfl).symm, by omega, hf 42 rfl, hf 45 rfl⟩, fun _ => by rw [(hF.same 106 rfl).2], fun _ => by rw [(hF.same 105 rfl).2], fun _ => by rw [(hF.same 104 rfl).2], by rw [(hF.same 96 rfl).2], by rw [(hF.same 123 rfl).2]⟩⟩
def rf_made (lo : Int) (x : rf_T) (t : sx_S) (z : Int) (P : rf_N → Prop) : Prop := ∃ n : rf_N, rf_no t n z ∧ (rf_idx n).Nodup ∧ (∀ j ∈ rf_idx n, lo ≤ (j : Int)) ∧ rf_nx n ∧ (rf_gt (rf_H t) rf_P n).1 x ∧ P n
/-- G asks no less of what stands in less -/
def rf_mo (G : Nat → Int → List Int → Prop) : Prop := ∀ (j : Nat) (r : Int) (Γ Γ' : List Int), (∀ v ∈ Γ, v ∈ Γ') → G j r Γ → G j r Γ'
def rf_PC (i0 : Int) (k : Int × Int) (f0 : rf_N) (x : rf_T) (vs : List Int) (x1 : Int) (t : sx_S) (n : rf_N) : Prop := ((∀ us v, (k.1 = 2 → k.2 < i0) → ((rf_lf2 n).1 us v ↔ k.1 = 2 ∧ k.2 = v ∧ v ∉ us ∧ (rf_lf2 f0).2 us)) ∧ (∀ G Γ, rf_mo G → (k.1 = 2 → k.2 ∈ Γ) → (k.1 = 3 → (∀ v ∈ vs, v ∈ Γ) ∧ ∀ Γ' : List Int, (∀ v ∈ rf_rv t x1, v ∈ Γ') → G x1.toNat k.2 Γ') → (rf_sc G f0).2 Γ → (rf_sc G n).1 Γ) ∧ (k.1 = 3 → rf_mp t x1.toNat k.2 .leaf (t.1 66 56) ∧ (vs.Nodup → (∀ v ∈ vs, v < i0) → (rf_rv t x1).Nodup))) ∧ ((k.1 ≠ 3 → (rf_wh n).1 + 1 ≤ 2 * rf_at x + (rf_wh f0).2) ∧ (k.1 = 3 → (rf_wh n).1 ≤ rf_at x + 4)) ∧ ∀ m, (rf_oc n).1 m ↔ (k.1 = 3 ∧ m = k.2) ∨ (k.1 ≠ 3 ∧ (rf_oc f0).2 m)
section RFJ3
variable {x1 : Int} {k : Int × Int} {f0 : rf_N} {x : rf_T} {u t : sx_S} {x3 x4 : Int} {i0 ib : Int} {vs : List Int}
/-- the head with all that it wants is of basic type; its height; its unknowns -/
theorem rf_J_head {f : rf_N} (a8 : ((k.1 = 1 ∨ k.1 = 2) ∧ ∃ w, rf_H u x1.toNat k.1 k.2 w ∧ (rf_gt (rf_H u) rf_P f).2 w .leaf) ∨ (k.1 = 3 ∧ f = .leaf ∧ rf_mp u x1.toNat k.2 .leaf (u.1 66 56))) (a10 : ∀ m, (rf_oc f).2 m ↔ (rf_oc f0).2 m) : (rf_gt (rf_H u) rf_P (.inner x1.toNat k () f .leaf)).1 .leaf ∧ ((k.1 ≠ 3 → (rf_wh (.inner x1.toNat k () f .leaf)).1 = 1 + (rf_wh f).2) ∧ (k.1 = 3 → (rf_wh (.inner x1.toNat k () f .leaf)).1 = 5)) ∧ ∀ m, (rf_oc (.inner x1.toNat k () f .leaf)).1 m ↔ (k.1 = 3 ∧ m = k.2) ∨ (k.1 ≠ 3 ∧ (rf_oc f0).2 m) := by
  rcases a8 with ⟨b1, w, b2, b3⟩ | ⟨b1, b2, b3⟩
  · refine ⟨Or.inr ⟨by omega, w, b2, b3, rfl⟩, ⟨fun _ => rf_wh_2 b1, fun h => by omega⟩, fun m => ?_⟩
    rw [← a10 m]
    constructor
    · rintro (⟨h, _⟩ | ⟨h, _⟩ | ⟨_, h⟩)
      · omega
      · omega
      · exact Or.inr ⟨by omega, h⟩
    · rintro (⟨h, _⟩ | ⟨_, h⟩)
      · omega
      · exact Or.inr (Or.inr ⟨b1, h⟩)
  · refine ⟨Or.inr ⟨by omega, .leaf, Or.inr (Or.inr (Or.inr ⟨b1, rfl, _, b3⟩)), by rw [b2]; rfl, rfl⟩, ⟨fun h => absurd b1 h, fun _ => ?_⟩, fun m => ?_⟩
    · show (if k.1 = 3 then 5 else _) = 5
      rw [if_pos b1]
    · constructor
      · rintro (h | ⟨h, _⟩ | ⟨h, _⟩)
        · exact Or.inl h
        · omega
        · omega
      · rintro (h | ⟨h, _⟩)
        · exact Or.inl h
        · exact absurd b1 h
theorem rf_J_end {f : rf_N} {C : List (Nat × Int)} (a8 : ((k.1 = 1 ∨ k.1 = 2) ∧ ∃ w, rf_H u x1.toNat k.1 k.2 w ∧ (rf_gt (rf_H u) rf_P f).2 w .leaf) ∨ (k.1 = 3 ∧ f = .leaf ∧ rf_mp u x1.toNat k.2 .leaf (u.1 66 56))) (a11 : (k.1 ≠ 3 → ∃ us g, C.map Prod.snd = us ++ [] ∧ f = rf_snoc f0 g ∧ (rf_lf2 g).2 us ∧ (rf_sc rf_G0 g).2 us) ∧ (∀ c ∈ C.map Prod.snd, i0 ≤ c ∧ c < ib) ∧ (C.map Prod.snd).Nodup ∧ (k.1 = 3 → rf_rv u x1 ++ [] = vs ++ C.map Prod.snd)) : (∀ us v, (k.1 = 2 → k.2 < i0) → ((rf_lf2 (rf_ch C (.inner x1.toNat k () f .leaf))).1 us v ↔ k.1 = 2 ∧ k.2 = v ∧ v ∉ us ∧ (rf_lf2 f0).2 us)) ∧ (∀ G Γ, rf_mo G → (k.1 = 2 → k.2 ∈ Γ) → (k.1 = 3 → (∀ v ∈ vs, v ∈ Γ) ∧ ∀ Γ' : List Int, (∀ v ∈ rf_rv u x1, v ∈ Γ') → G x1.toNat k.2 Γ') → (rf_sc G f0).2 Γ → (rf_sc G (rf_ch C (.inner x1.toNat k () f .leaf))).1 Γ) ∧ (k.1 = 3 → rf_mp u x1.toNat k.2 .leaf (u.1 66 56) ∧ (vs.Nodup → (∀ v ∈ vs, v < i0) → (rf_rv u x1).Nodup)) := by
  have hk0 : k.1 ≠ 0 := by
    rcases a8 with ⟨q | q, _⟩ | ⟨q, _⟩
    · omega
    · omega
    · omega
  refine ⟨fun us v hi => ?_, fun G Γ hG h2 h3 hf => ?_, fun q1 => ⟨?_, fun q2 q3 => ?_⟩⟩
  · rw [rf_ch_lf_iff]
    constructor
    · rintro (⟨q, _⟩ | ⟨q1, q2, q3, q4⟩)
      · exact absurd q hk0
      · obtain ⟨ws, g, e1, e2, e3, _⟩ := a11.1 (by omega)
        rw [List.append_nil] at e1
        rw [e2, e1] at q4
        exact ⟨q1, q2, fun z => q3 (List.mem_append_left _ z), (rf_lf2_app e3).mp q4⟩
    · rintro ⟨q1, q2, q3, q4⟩
      obtain ⟨ws, g, e1, e2, e3, _⟩ := a11.1 (by omega)
      rw [List.append_nil] at e1
      refine Or.inr ⟨q1, q2, fun z => ?_, ?_⟩
      · rcases List.mem_append.mp z with z | z
        · exact q3 z
        · have := (a11.2.1 _ z).1
          have := hi q1
          omega
      · rw [e2, e1]
        exact (rf_lf2_app e3).mpr q4
  · refine rf_sc_ch (b := (.inner x1.toNat k () f .leaf)) (D := C.map Prod.snd ++ Γ) (fun j _ r Γ1 Γ2 => hG j r Γ1 Γ2) (Or.inr ⟨hk0, fun q => List.mem_append_right _ (h2 q), fun q => ?_, ?_⟩) (fun v hv => List.mem_append.mp hv)
    · refine (h3 q).2 _ (fun v hv => ?_)
      have e := a11.2.2.2 q
      rw [List.append_nil] at e
      rw [e] at hv
      rcases List.mem_append.mp hv with hv | hv
      · exact List.mem_append_right _ ((h3 q).1 v hv)
      · exact List.mem_append_left _ hv
    · rcases a8 with ⟨b1, _⟩ | ⟨_, b2, _⟩
      · obtain ⟨ws, g, e1, e2, e3, e4⟩ := a11.1 (by omega)
        rw [List.append_nil] at e1
        rw [e2]
        exact rf_sc_snoc ((rf_sc_mono (fun j _ r Γ1 Γ2 => hG j r Γ1 Γ2)).2 _ _ (fun v hv => List.mem_append_right _ hv) hf) ((rf_sc_mono (fun _ _ _ _ _ _ q => q.elim)).2 _ _ (fun v hv => List.mem_append_left _ (by rw [e1]; exact hv)) e4)
      · rw [b2]
        exact trivial
  · rcases a8 with ⟨b1, _⟩ | ⟨_, _, b3⟩
    · omega
    · exact b3
  · have e := a11.2.2.2 q1
    rw [List.append_nil] at e
    rw [e]
    refine List.nodup_append.mpr ⟨q2, a11.2.2.1, fun a ha b hb z => ?_⟩
    have := q3 a ha
    have := (a11.2.1 b hb).1
    omega
theorem rf_J_end1 (h : rf_J x1 k f0 x u (-1) x4 .leaf .leaf i0 [] vs ib) : rf_made x1 x u x1 (rf_PC i0 k f0 x vs x1 u) := by
  obtain ⟨C, f, a1, a2, a3, a4, a5, a6, a7, a8, a9, a10, a11⟩ := h
  have hC : C = [] := by
    rcases a4 with ⟨q, _⟩ | ⟨_, q, _⟩
    · exact q
    · cases C with
      | nil => rfl
      | cons c l =>
        have := q.1.1
        omega
  subst hC
  have ex : x = .leaf := a7
  obtain ⟨h1, ⟨h2, h2'⟩, h3⟩ := rf_J_head a8 a10
  have e1 : rf_at (.leaf : rf_T) = 1 := rfl
  simp only [List.length_nil] at a9
  have h4 := rf_J_end (C := []) a8 a11
  refine ⟨_, a1, a2, a3, rfl, by rw [ex]; exact h1, h4, ⟨fun q => ?_, fun q => ?_⟩, h3⟩
  · rw [h2 q]
    omega
  · rw [h2' q]
    have := rf_at_pos x
    omega
theorem rf_J_end2 {Bs : (Nat → Nat → Int) × Nat} (h : rf_J x1 k f0 x u x3 x4 .leaf .leaf i0 [] vs ib) (h3 : x3 ≠ -1) (h1' : 0 ≤ x1) : rf_made x1 x (u.1, sx_ua u.2.1 102 x4.toNat x1, Bs) x3 (rf_PC i0 k f0 x vs x1 (u.1, sx_ua u.2.1 102 x4.toNat x1, Bs)) := by
  obtain ⟨C, f, a1, a2, a3, a4, a5, a6, a7, a8, a9, a10, a11⟩ := h
  rcases a4 with ⟨_, q⟩ | ⟨c1, c2, c3⟩
  · exact absurd q h3
  obtain ⟨h1, ⟨h2, h2'⟩, h4⟩ := rf_J_head a8 a10
  have e1 : rf_at (.leaf : rf_T) = 1 := rfl
  have hl := rf_ct_len a7
  have hlast := rf_cl_mem (d := 0) c1
  have e4 : x4.toNat = rf_cl C 0 := by omega
  have q100 : (sx_ua u.2.1 102 x4.toNat x1) 100 = u.2.1 100 := sx_ua_ne (by decide)
  have q101 : (sx_ua u.2.1 102 x4.toNat x1) 101 = u.2.1 101 := sx_ua_ne (by decide)
  have q103 : (sx_ua u.2.1 102 x4.toNat x1) 103 = u.2.1 103 := sx_ua_ne (by decide)
  have q102 : (sx_ua u.2.1 102 x4.toNat x1) 102 = fun j => if j = x4.toNat then x1 else u.2.1 102 j := sx_ua_same _ _ _ _
  have hxu : rf_xu u (u.1, sx_ua u.2.1 102 x4.toNat x1, Bs) := rf_xu_arr rfl (fun q hq => sx_ua_ne (by rcases hq with rfl | rfl | rfl | rfl | rfl | rfl | rfl <;> decide))
  have hhd : rf_nd (u.2.1 100) (u.2.1 101) ((sx_ua u.2.1 102 x4.toNat x1) 102) (u.2.1 103) (u.1 66 50) (.inner x1.toNat k () f .leaf) x1 := by
    refine rf_nd_mono (Int.le_refl _) (fun j hj => ⟨rfl, rfl, ?_, rfl⟩) a1
    rw [q102]
    show (if j = x4.toNat then x1 else u.2.1 102 j) = _
    rw [if_neg (fun q => (a6 _ hlast).1 (by rw [← e4, ← q]; exact hj))]
  have hch := rf_ch_set (F' := (sx_ua u.2.1 102 x4.toNat x1) 102) hhd (d := 0) c1 a5 (fun j hj => by
    rw [q102]
    show (if j = x4.toNat then x1 else u.2.1 102 j) = _
    rw [if_neg (by rw [e4]; exact hj)]) (by
    rw [q102]
    show (if rf_cl C 0 = x4.toNat then x1 else _) = _
    rw [if_pos e4.symm]) c2
  have hno : rf_no (u.1, sx_ua u.2.1 102 x4.toNat x1, Bs) (rf_ch C (.inner x1.toNat k () f .leaf)) x3 := by
    unfold rf_no
    dsimp only
    rw [q100, q101, q103]
    exact hch
  refine ⟨rf_ch C (.inner x1.toNat k () f .leaf), hno, rf_ch_nodup a2 a5 (fun j hj => (a6 j hj).1), fun j hj => ?_, ?_, (rf_ct_gt (rf_ct_up hxu a7) ((rf_gt_up hxu a1).1 _ h1)), ?_, ⟨fun q => ?_, fun q => ?_⟩, fun m => ?_⟩
  · rcases rf_ch_idx.mp hj with q | q
    · exact (a6 j q).2.1
    · exact a3 j q
  · cases C with
    | nil => exact absurd rfl c1
    | cons c l => rfl
  · have hlt := rf_nd_lt a1 x1.toNat List.mem_cons_self
    have h := rf_J_end a8 a11
    refine ⟨h.1, ?_, fun q => ⟨rf_mp_up hxu hlt (h.2.2 q).1, ?_⟩⟩
    · rw [rf_rv_102]
      exact h.2.1
    · rw [rf_rv_102]
      exact (h.2.2 q).2
  · rw [rf_ch_wh, h2 q]
    omega
  · rw [rf_ch_wh, h2' q]
    omega
  · rw [rf_ch_oc]
    exact h4 m
end RFJ3
