/-! ===== solving all equations: what holds on the way; pend: pairs that must become the same ===== -/
abbrev vx_P : Type := (rf_N × (Int → Int)) × (rf_N × (Int → Int)) × Int
def vx_pe (th : Int → rf_N) (AR : Nat → List Int) (p : vx_P) : Prop := vx_val th AR p.1.1 p.1.2 p.2.2 = vx_val th AR p.2.1.1 p.2.1.2 p.2.2
/-- Q: the equations hold (said of the first n0 unknowns alone) -/
def vx_J (S : vx_S) (n0 : Int) (Q : (Int → rf_N) → Prop) (pend : List vx_P) : Prop := (∀ th, vx_So S th → (∀ p ∈ pend, vx_pe th S.2.2.2.2 p) → Q th) ∧ (∀ th, vx_So S th → Q th → ∀ p ∈ pend, vx_pe th S.2.2.2.2 p) ∧ (n0 ≤ S.1 ∧ ∀ th0, vx_gd th0 → (∀ u, 0 ≤ u → u < n0 → vx_sc (th0 u) (S.2.2.1 u)) → Q th0 → ∃ th, vx_So S th ∧ vx_ag n0 th0 th)
/-- a pair gives way to others that say the same -/
theorem vx_J_rep {S : vx_S} {n0 : Int} {Q : (Int → rf_N) → Prop} {p : vx_P} {ps pend : List vx_P} (h : vx_J S n0 Q (p :: pend)) (hp : ∀ th, vx_So S th → (vx_pe th S.2.2.2.2 p ↔ ∀ q ∈ ps, vx_pe th S.2.2.2.2 q)) : vx_J S n0 Q (ps ++ pend) := by
  obtain ⟨h1, h2, h3⟩ := h
  refine ⟨fun th hS hq => h1 th hS (fun r hr => ?_), fun th hS hQ r hr => ?_, h3⟩
  · rcases List.mem_cons.mp hr with rfl | hr
    · exact (hp th hS).mpr (fun q hq' => hq q (List.mem_append_left _ hq'))
    · exact hq r (List.mem_append_right _ hr)
  · rcases List.mem_append.mp hr with hr | hr
    · exact (hp th hS).mp (h2 th hS hQ p List.mem_cons_self) r hr
    · exact h2 th hS hQ r (List.mem_cons_of_mem _ hr)
/-- nothing solves it: no solution at all -/
theorem vx_J_no {S : vx_S} {n0 : Int} {Q : (Int → rf_N) → Prop} {p : vx_P} {pend : List vx_P} (h : vx_J S n0 Q (p :: pend)) (hQ : ∀ th th', vx_ag n0 th th' → Q th → Q th') (hp : ∀ th, vx_So S th → ¬ vx_pe th S.2.2.2.2 p) : ∀ th0, vx_gd th0 → (∀ u, 0 ≤ u → u < n0 → vx_sc (th0 u) (S.2.2.1 u)) → ¬ Q th0 := fun th0 g0 s0 q0 => by
  obtain ⟨h1, h2, _, h3⟩ := h
  obtain ⟨th, hS, ha⟩ := h3 th0 g0 s0 q0
  exact hp th hS (h2 th hS (hQ _ _ ha q0) p List.mem_cons_self)
/-- more is known: S becomes T, and the first pair is done with -/
theorem vx_J_le {S T : vx_S} {n0 : Int} {Q : (Int → rf_N) → Prop} {p : vx_P} {pend : List vx_P} (h : vx_J S n0 Q (p :: pend)) (hW : vx_W S) (hle : vx_le S T) (hQ : ∀ th th', vx_ag n0 th th' → Q th → Q th') (hin : ∀ q ∈ p :: pend, vx_in S q.1.1 ∧ vx_in S q.2.1.1) (hp : ∀ th, vx_So T th → vx_pe th T.2.2.2.2 p) (hE : ∀ th, vx_So S th → Q th → vx_pe th S.2.2.2.2 p → ∃ th', vx_So T th' ∧ vx_ag S.1 th th') : vx_J T n0 Q pend := by
  obtain ⟨h1, h2, h3, h4⟩ := h
  have eq : ∀ th q, q ∈ p :: pend → (vx_pe th T.2.2.2.2 q ↔ vx_pe th S.2.2.2.2 q) := fun th q hq => by
    unfold vx_pe
    rw [vx_val_le hle (hin q hq).1, vx_val_le hle (hin q hq).2]
  refine ⟨fun th hT hq => h1 th (vx_So_le hW hle hT) (fun r hr => ?_), fun th hT hQ' r hr => ?_, by have := hle.1.1; omega, fun th0 g0 s0 q0 => ?_⟩
  · rcases List.mem_cons.mp hr with rfl | hr'
    · exact (eq th r hr).mp (hp th hT)
    · exact (eq th r hr).mp (hq r hr')
  · exact (eq th r (List.mem_cons_of_mem _ hr)).mpr (h2 th (vx_So_le hW hle hT) hQ' r (List.mem_cons_of_mem _ hr))
  · obtain ⟨th, hS, ha⟩ := h4 th0 g0 (fun u u0 hu => by rw [← hle.2.1 u u0 (by omega)]; exact s0 u u0 hu) q0
    have hq := hQ _ _ ha q0
    obtain ⟨th', hT, ha'⟩ := hE th hS hq (h2 th hS hq p List.mem_cons_self)
    exact ⟨th', hT, fun u u0 hu => (ha' u u0 (by omega)).trans (ha u u0 hu)⟩
/-- the open unknown u before the variables xs is the other side, B: what it is given, and that this is all -/
theorem vx_J_give {S T : vx_S} {n0 L u : Int} {Q : (Int → rf_N) → Prop} {j : Nat} {F B : rf_N} {e d eu : Int → Int} {pend : List vx_P} (h : vx_J S n0 Q (((rf_n j 3 u F .leaf, e), (B, d), L) :: pend)) (hW : vx_W S) (hg : vx_gv S T u B eu) (hQ : ∀ th th', vx_ag n0 th th' → Q th → Q th') (hin : ∀ q ∈ ((rf_n j 3 u F .leaf, e), (B, d), L) :: pend, vx_in S q.1.1 ∧ vx_in S q.2.1.1) (hn : ((S.2.2.2.2 j).map e).Nodup) (hx : ∀ x ∈ (S.2.2.2.2 j).map e, x < L) (hd : ∀ z, d z < L) (hP : ∀ z (i : Nat), ((S.2.2.2.2 j).map e)[i]? = some (d z) → eu z = (i : Int)) (hP' : ∀ z, 0 ≤ eu z → d z = ((S.2.2.2.2 j).map e).getD (eu z).toNat (-1)) : vx_J T n0 Q pend := by
  have hle := vx_gv_le hg
  have hlen : ((S.2.2.2.2 j).length : Int) = S.2.2.1 u := by
    rcases (hin _ List.mem_cons_self).1.2.2.1 with ⟨z, _⟩ | ⟨_, z⟩
    · have z' : (3 : Int) = 0 ∨ (3 : Int) = 1 ∨ (3 : Int) = 2 := z
      omega
    · exact z
  have hl2 : (((S.2.2.2.2 j).map e).length : Int) = S.2.2.1 u := by rw [List.length_map, hlen]
  refine vx_J_le h hW hle hQ hin (fun th hT => ?_) (fun th hS hq hp => ⟨th, vx_gv_So hg hS ?_, fun _ _ _ => rfl⟩)
  · have hS := vx_So_le hW hle hT
    obtain ⟨⟨a1, a2, a3, a4⟩, ⟨b1, b2, b3⟩, c, _, f⟩ := hg
    have hb : T.2.2.2.1 u = some (B, eu) := by rw [c, if_pos rfl]
    exact vx_call_body hT (F := F) hb (by rw [a4, a3]; exact hlen) (fun z => by rw [a3]; exact f z) (fun z hz => by rw [a4]; exact hP' z hz)
  · have hp' : vx_val th S.2.2.2.2 (rf_n j 3 u F .leaf) e L = vx_val th S.2.2.2.2 B d L := hp
    rw [vx_call (fun m => (hS.1 m).1)] at hp'
    have su := hS.2.1 u hg.2.1.2.1 hg.2.1.2.2
    rw [← hl2] at su
    have := vx_bind hS.1 su hn hx hd hP hp'
    rw [hl2] at this
    exact this
