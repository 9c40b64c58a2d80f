/-! ===== the reference: a long form at its end ===== -/
theorem rf_xu_new {s t : sx_S} (hF : cx_F [(66, 66), (106, 106)] s t) (hf : rf_f [58] s t) (h58 : t.1 66 58 = s.1 66 58 + 1) (ha : rf_ag 106 106 (s.1 66 58) s t) : rf_xu s t := by
  refine ⟨fun j => ⟨Int.le_of_eq (hf 9 rfl).symm, fun _ => ⟨by rw [(hF.same 72 rfl).2], by rw [(hF.same 73 rfl).2]⟩⟩, fun j => ⟨⟨by omega, Int.le_of_eq (hf 56 rfl).symm, Int.le_of_eq (hf 50 rfl).symm, hf 42 rfl, hf 45 rfl⟩, fun hj => ha 106 j (by omega) (by omega) hj, fun _ => by rw [(hF.same 105 rfl).2], fun _ => by rw [(hF.same 104 rfl).2], by rw [(hF.same 96 rfl).2], by rw [(hF.same 123 rfl).2]⟩⟩
theorem rf_xu_make {s t : sx_S} (hF : cx_F [(66, 66), (100, 103)] s t) (hf : rf_f [50] s t) (h50 : t.1 66 50 = s.1 66 50 + 1) : rf_xu s t := by
  refine ⟨fun j => ⟨Int.le_of_eq (hf 9 rfl).symm, fun _ => ⟨by rw [(hF.same 72 rfl).2], by rw [(hF.same 73 rfl).2]⟩⟩, fun j => ⟨⟨Int.le_of_eq (hf 58 rfl).symm, Int.le_of_eq (hf 56 rfl).symm, by omega, hf 42 rfl, hf 45 rfl⟩, fun _ => by rw [(hF.same 106 rfl).2], fun _ => by rw [(hF.same 105 rfl).2], fun _ => by rw [(hF.same 104 rfl).2], by rw [(hF.same 96 rfl).2], by rw [(hF.same 123 rfl).2]⟩⟩
def rf_made (lo : Int) (x : rf_T) (t : sx_S) (z : Int) (P : rf_N → Prop) : Prop := ∃ n : rf_N, rf_no t n z ∧ (rf_idx n).Nodup ∧ (∀ j ∈ rf_idx n, lo ≤ (j : Int)) ∧ rf_nx n ∧ (rf_gt (rf_H t) rf_P n).1 x ∧ P n
def rf_PC (i0 : Int) (k : Int × Int) (f0 : rf_N) (x : rf_T) (n : rf_N) : Prop := (k.1 = 2 → f0 = .leaf → k.2 < i0 → rf_lf n k.2) ∧ ((k.1 ≠ 3 → (rf_wh n).1 + 1 ≤ 2 * rf_at x + (rf_wh f0).2) ∧ (k.1 = 3 → (rf_wh n).1 ≤ rf_at x + 4)) ∧ ∀ m, (rf_oc n).1 m ↔ (k.1 = 3 ∧ m = k.2) ∨ (k.1 ≠ 3 ∧ (rf_oc f0).2 m)
section RFJ3
variable {x1 : Int} {k : Int × Int} {f0 : rf_N} {x : rf_T} {u t : sx_S} {x3 x4 : Int} {i0 : Int}
/-- the head with all that it wants is of basic type; its height; its unknowns -/
theorem rf_J_head {f : rf_N} (a8 : ((k.1 = 1 ∨ k.1 = 2) ∧ ∃ w, rf_H u x1.toNat k.1 k.2 w ∧ (rf_gt (rf_H u) rf_P f).2 w .leaf) ∨ (k.1 = 3 ∧ f = .leaf ∧ rf_mp u x1.toNat k.2 .leaf (u.1 66 56))) (a10 : ∀ m, (rf_oc f).2 m ↔ (rf_oc f0).2 m) : (rf_gt (rf_H u) rf_P (.inner x1.toNat k () f .leaf)).1 .leaf ∧ ((k.1 ≠ 3 → (rf_wh (.inner x1.toNat k () f .leaf)).1 = 1 + (rf_wh f).2) ∧ (k.1 = 3 → (rf_wh (.inner x1.toNat k () f .leaf)).1 = 5)) ∧ ∀ m, (rf_oc (.inner x1.toNat k () f .leaf)).1 m ↔ (k.1 = 3 ∧ m = k.2) ∨ (k.1 ≠ 3 ∧ (rf_oc f0).2 m) := by
  rcases a8 with ⟨b1, w, b2, b3⟩ | ⟨b1, b2, b3⟩
  · refine ⟨Or.inr ⟨by omega, w, b2, b3, rfl⟩, ⟨fun _ => rf_wh_2 b1, fun h => by omega⟩, fun m => ?_⟩
    rw [← a10 m]
    constructor
    · rintro (⟨h, _⟩ | ⟨h, _⟩ | ⟨_, h⟩)
      · omega
      · omega
      · exact Or.inr ⟨by omega, h⟩
    · rintro (⟨h, _⟩ | ⟨_, h⟩)
      · omega
      · exact Or.inr (Or.inr ⟨b1, h⟩)
  · refine ⟨Or.inr ⟨by omega, .leaf, Or.inr (Or.inr (Or.inr ⟨b1, rfl, _, b3⟩)), by rw [b2]; rfl, rfl⟩, ⟨fun h => absurd b1 h, fun _ => ?_⟩, fun m => ?_⟩
    · show (if k.1 = 3 then 5 else _) = 5
      rw [if_pos b1]
    · constructor
      · rintro (h | ⟨h, _⟩ | ⟨h, _⟩)
        · exact Or.inl h
        · omega
        · omega
      · rintro (h | ⟨h, _⟩)
        · exact Or.inl h
        · exact absurd b1 h
theorem rf_J_end1 (h : rf_J x1 k f0 x u (-1) x4 .leaf .leaf i0 []) : rf_made x1 x u x1 (rf_PC i0 k f0 x) := by
  obtain ⟨C, f, a1, a2, a3, a4, a5, a6, a7, a8, a9, a10, a11⟩ := h
  have hC : C = [] := by
    rcases a4 with ⟨q, _⟩ | ⟨_, q, _⟩
    · exact q
    · cases C with
      | nil => rfl
      | cons c l =>
        have := q.1.1
        omega
  subst hC
  have ex : x = .leaf := a7
  obtain ⟨h1, ⟨h2, h2'⟩, h3⟩ := rf_J_head a8 a10
  have e1 : rf_at (.leaf : rf_T) = 1 := rfl
  simp only [List.length_nil] at a9
  refine ⟨_, a1, a2, a3, rfl, by rw [ex]; exact h1, fun q1 q2 q3 => ?_, ⟨fun q => ?_, fun q => ?_⟩, h3⟩
  · obtain ⟨us, e1, e2⟩ := a11.1 q1 q2
    have e3 : us = [] := by simpa using e1.symm
    subst e3
    exact Or.inr ⟨q1, rfl, List.not_mem_nil, e2⟩
  · rw [h2 q]
    omega
  · rw [h2' q]
    have := rf_at_pos x
    omega
theorem rf_J_end2 {Bs : (Nat → Nat → Int) × Nat} (h : rf_J x1 k f0 x u x3 x4 .leaf .leaf i0 []) (h3 : x3 ≠ -1) (h1' : 0 ≤ x1) : rf_made x1 x (u.1, sx_ua u.2.1 102 x4.toNat x1, Bs) x3 (rf_PC i0 k f0 x) := by
  obtain ⟨C, f, a1, a2, a3, a4, a5, a6, a7, a8, a9, a10, a11⟩ := h
  rcases a4 with ⟨_, q⟩ | ⟨c1, c2, c3⟩
  · exact absurd q h3
  obtain ⟨h1, ⟨h2, h2'⟩, h4⟩ := rf_J_head a8 a10
  have e1 : rf_at (.leaf : rf_T) = 1 := rfl
  have hl := rf_ct_len a7
  have hlast := rf_cl_mem (d := 0) c1
  have e4 : x4.toNat = rf_cl C 0 := by omega
  have q100 : (sx_ua u.2.1 102 x4.toNat x1) 100 = u.2.1 100 := sx_ua_ne (by decide)
  have q101 : (sx_ua u.2.1 102 x4.toNat x1) 101 = u.2.1 101 := sx_ua_ne (by decide)
  have q103 : (sx_ua u.2.1 102 x4.toNat x1) 103 = u.2.1 103 := sx_ua_ne (by decide)
  have q102 : (sx_ua u.2.1 102 x4.toNat x1) 102 = fun j => if j = x4.toNat then x1 else u.2.1 102 j := sx_ua_same _ _ _ _
  have hxu : rf_xu u (u.1, sx_ua u.2.1 102 x4.toNat x1, Bs) := rf_xu_arr rfl (fun q hq => sx_ua_ne (by rcases hq with rfl | rfl | rfl | rfl | rfl | rfl | rfl <;> decide))
  have hhd : rf_nd (u.2.1 100) (u.2.1 101) ((sx_ua u.2.1 102 x4.toNat x1) 102) (u.2.1 103) (u.1 66 50) (.inner x1.toNat k () f .leaf) x1 := by
    refine rf_nd_mono (Int.le_refl _) (fun j hj => ⟨rfl, rfl, ?_, rfl⟩) a1
    rw [q102]
    show (if j = x4.toNat then x1 else u.2.1 102 j) = _
    rw [if_neg (fun q => (a6 _ hlast).1 (by rw [← e4, ← q]; exact hj))]
  have hch := rf_ch_set (F' := (sx_ua u.2.1 102 x4.toNat x1) 102) hhd (d := 0) c1 a5 (fun j hj => by
    rw [q102]
    show (if j = x4.toNat then x1 else u.2.1 102 j) = _
    rw [if_neg (by rw [e4]; exact hj)]) (by
    rw [q102]
    show (if rf_cl C 0 = x4.toNat then x1 else _) = _
    rw [if_pos e4.symm]) c2
  have hno : rf_no (u.1, sx_ua u.2.1 102 x4.toNat x1, Bs) (rf_ch C (.inner x1.toNat k () f .leaf)) x3 := by
    unfold rf_no
    dsimp only
    rw [q100, q101, q103]
    exact hch
  refine ⟨rf_ch C (.inner x1.toNat k () f .leaf), hno, rf_ch_nodup a2 a5 (fun j hj => (a6 j hj).1), fun j hj => ?_, ?_, (rf_ct_gt (rf_ct_up hxu a7) ((rf_gt_up hxu a1).1 _ h1)), fun q1 q2 q3 => ?_, ⟨fun q => ?_, fun q => ?_⟩, fun m => ?_⟩
  · rcases rf_ch_idx.mp hj with q | q
    · exact (a6 j q).2.1
    · exact a3 j q
  · cases C with
    | nil => exact absurd rfl c1
    | cons c l => rfl
  · obtain ⟨us, e1, e2⟩ := a11.1 q1 q2
    rw [List.append_nil] at e1
    refine rf_ch_lf (Or.inr ⟨q1, rfl, fun z => ?_, ?_⟩)
    · have := a11.2 _ z
      omega
    · show (rf_lf2 f).2 (C.map Prod.snd)
      rw [e1]
      exact e2
  · rw [rf_ch_wh, h2 q]
    omega
  · rw [rf_ch_wh, h2' q]
    omega
  · rw [rf_ch_oc]
    exact h4 m
end RFJ3
