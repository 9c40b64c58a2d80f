/-! ===== the reference: the unknowns, solved and open ===== -/
/-- it is an unknown -/
def rf_k3 : rf_N → Prop
  | .leaf => False
  | .inner _ k _ _ _ => k.1 = 3
def rf_SV (nb ib : Int) (s : sx_S) (g : rf_Gh) (x : Int) : Prop := (rf_no s (g.1 x) (s.2.1 113 x.toNat) ∧ (rf_gt (rf_Hn ib s (rf_Nx s x)) rf_P (g.1 x)).1 .leaf ∧ (rf_wh (g.1 x)).1 ≤ 200 ∧ (rf_am (rf_di s g.2.2) (g.1 x)).1) ∧ (rf_by (s.2.1 115) (s.2.1 116) (s.2.1 117) nb (g.2.1 x) (s.2.1 114 x.toNat) ∧ rf_bd ib (g.2.1 x) ∧ rf_ok (rf_vb ib s) (fun _ _ => False) (g.2.1 x) ∧ (rf_dp (g.2.1 x) : Int) + 1 ≤ s.1 66 70) ∧ ((0 ≤ s.2.1 112 x.toNat ∧ s.2.1 112 x.toNat + rf_aa s x ≤ s.1 66 56) ∧ (∀ q : Nat, (q : Int) < rf_aa s x → (∃ T, rf_py s x q T ∧ rf_vb ib s (rf_fm s x q) T) ∨ rf_fm s x q = -2 - (q : Int)) ∧ ((g.2.1 x = .leaf ∧ rf_k3 (g.1 x)) ∨ ∀ q : Nat, (q : Int) < rf_aa s x → 0 ≤ rf_fm s x q) ∧ (∀ p q : Nat, (p : Int) < rf_aa s x → (q : Int) < rf_aa s x → rf_fm s x p = rf_fm s x q → p = q)) ∧ (∀ v, (rf_fo (rf_Wd s g.2.2) (g.1 x)).1 v → ∃ q : Nat, g.2.2 x q ∧ rf_look (g.2.1 x) v = rf_fm s x q) ∧ (∀ v w, (rf_fo (rf_Wd s g.2.2) (g.1 x)).1 v → (rf_fo (rf_Wd s g.2.2) (g.1 x)).1 w → rf_look (g.2.1 x) v = rf_look (g.2.1 x) w → v = w)
/-- from unknown to unknown -/
def rf_Ed (s : sx_S) (g : rf_Gh) (x z : Int) : Prop := (0 ≤ x ∧ x < s.1 66 61) ∧ s.2.1 111 x.toNat ≠ 0 ∧ (rf_oc (g.1 x)).1 z
def rf_MX (nb ib : Int) (s : sx_S) (g : rf_Gh) (x : Int) : Prop := (∀ q : Nat, (q : Int) < rf_aa s x → ∃ T, rf_py s x q T) ∧ (∀ q : Nat, g.2.2 x q → (q : Int) < rf_aa s x) ∧ (s.2.1 111 x.toNat = 0 → ∀ q : Nat, (q : Int) < rf_aa s x → g.2.2 x q) ∧ (s.2.1 111 x.toNat ≠ 0 → rf_SV nb ib s g x)
def rf_MI (nb ib : Int) (s : sx_S) (g : rf_Gh) : Prop := (∀ x : Int, 0 ≤ x → x < s.1 66 61 → rf_MX nb ib s g x) ∧ ∀ x, ¬ rf_rc (rf_Ed s g) x x
/-- where the variables of a node's unknown lie -/
def rf_bn (s : sx_S) (j : Nat) (r : Int) : Prop := (j : Int) < s.1 66 50 ∧ (0 ≤ r ∧ r < s.1 66 61) ∧ (0 ≤ s.2.1 104 j ∧ s.2.1 104 j + rf_aa s r ≤ s.1 66 56)
theorem rf_Hn_3 {ib : Int} {s : sx_S} {N : Int → rf_T → Prop} {j : Nat} {k r : Int} {u : rf_T} (h : rf_Hn ib s N j k r u) (hk : k = 3) : u = .leaf ∧ (0 ≤ r ∧ r < s.1 66 61) ∧ (0 ≤ s.2.1 104 j ∧ s.2.1 104 j + rf_aa s r ≤ s.1 66 56) ∧ ∀ q : Nat, (q : Int) < rf_aa s r → ∃ x, rf_py s r q x ∧ (rf_vb ib s (rf_rv1 s j q) x ∨ N (rf_rv1 s j q) x) := by
  rcases h with ⟨c, _⟩ | ⟨c, _⟩ | ⟨c, _⟩ | ⟨_, h⟩
  · omega
  · omega
  · omega
  · exact h
theorem rf_Hn_02 {ib : Int} {s : sx_S} {N : Int → rf_T → Prop} {j : Nat} {k r : Int} {u : rf_T} (h : rf_Hn ib s N j k r u) (hk : k = 0 ∨ k = 2) : rf_vb ib s r u := by
  rcases h with ⟨_, h⟩ | ⟨c, _⟩ | ⟨_, h⟩ | ⟨c, _⟩
  · exact h
  · omega
  · exact h
  · omega
theorem rf_Hn_1 {ib : Int} {s : sx_S} {N : Int → rf_T → Prop} {j : Nat} {k r : Int} {u : rf_T} (h : rf_Hn ib s N j k r u) (hk : k = 1) : (0 ≤ r ∧ r < s.1 66 42) ∧ rf_is s u (s.2.1 96 r.toNat) := by
  rcases h with ⟨c, _⟩ | ⟨_, h⟩ | ⟨c, _⟩ | ⟨c, _⟩
  · omega
  · exact h
  · omega
  · omega
theorem rf_Hn_k {ib : Int} {s : sx_S} {N : Int → rf_T → Prop} {j : Nat} {k r : Int} {u : rf_T} (h : rf_Hn ib s N j k r u) : k = 0 ∨ k = 1 ∨ k = 2 ∨ k = 3 := by
  rcases h with ⟨c, _⟩ | ⟨c, _⟩ | ⟨c, _⟩ | ⟨c, _⟩
  · exact Or.inl c
  · exact Or.inr (Or.inl c)
  · exact Or.inr (Or.inr (Or.inl c))
  · exact Or.inr (Or.inr (Or.inr c))
theorem rf_bn_gn {ib : Int} {s : sx_S} {N : Int → rf_T → Prop} {n : rf_N} {i : Int} (hn : rf_no s n i) : (∀ x, (rf_gt (rf_Hn ib s N) rf_P n).1 x → (rf_am (rf_bn s) n).1) ∧ (∀ x y, (rf_gt (rf_Hn ib s N) rf_P n).2 x y → (rf_am (rf_bn s) n).2) := by
  have h1 := rf_am_gt (H := rf_Hn ib s N) (P := rf_P) (p := fun j r => (0 ≤ r ∧ r < s.1 66 61) ∧ (0 ≤ s.2.1 104 j ∧ s.2.1 104 j + rf_aa s r ≤ s.1 66 56)) (fun j r u g => by
    obtain ⟨_, g1, g2, _⟩ := rf_Hn_3 g rfl
    exact ⟨g1, g2⟩) (n := n)
  have h2 := rf_am_mono (p := fun j r => (0 ≤ r ∧ r < s.1 66 61) ∧ (0 ≤ s.2.1 104 j ∧ s.2.1 104 j + rf_aa s r ≤ s.1 66 56)) (p' := rf_bn s) (n := n) (fun j hj r g => ⟨rf_nd_lt hn j hj, g⟩)
  exact ⟨fun x g => h2.1 (h1.1 x g), fun x y g => h2.2 (h1.2 x y g)⟩
/-- free variables of an older state -/
theorem rf_Wd_up {nb ib : Int} {s t : sx_S} (h : rf_EX nb ib s t) {U U' : Int → Nat → Prop} (hU : ∀ r q, 0 ≤ r → r < s.1 66 61 → U' r q → U r q ∧ (q : Int) < rf_aa s r) {n : rf_N} : ((rf_am (rf_bn s) n).1 → ∀ v, (rf_fo (rf_Wd t U') n).1 v → (rf_fo (rf_Wd s U) n).1 v) ∧ ((rf_am (rf_bn s) n).2 → ∀ v, (rf_fo (rf_Wd t U') n).2 v → (rf_fo (rf_Wd s U) n).2 v) := by
  have hm : ∀ j ∈ rf_idx n, ∀ r, rf_bn s j r → ∀ v, rf_Wd t U' j r v → rf_Wd s U j r v := by
    rintro j _ r ⟨b1, b2, b3, b4⟩ v ⟨q, q1, q2⟩
    obtain ⟨u1, u2⟩ := hU r q b2.1 b2.2 q1
    exact ⟨q, u1, by rw [q2]; exact h.rv b1 b3 (by omega)⟩
  have h2 := rf_am_mono (p := rf_bn s) (p' := fun j r => ∀ v, rf_Wd t U' j r v → rf_Wd s U j r v) (n := n) hm
  have h3 := rf_fo_mono (W := rf_Wd s U) (W' := rf_Wd t U') (n := n)
  exact ⟨fun g => h3.1 (h2.1 g), fun g => h3.2 (h2.2 g)⟩
theorem rf_di_up {nb ib : Int} {s t : sx_S} (h : rf_EX nb ib s t) {U U' : Int → Nat → Prop} (hU : ∀ r q, 0 ≤ r → r < s.1 66 61 → U' r q → U r q ∧ (q : Int) < rf_aa s r) {n : rf_N} : ((rf_am (rf_bn s) n).1 → (rf_am (rf_di s U) n).1 → (rf_am (rf_di t U') n).1) ∧ ((rf_am (rf_bn s) n).2 → (rf_am (rf_di s U) n).2 → (rf_am (rf_di t U') n).2) := by
  refine rf_am_and (p := rf_bn s) (p' := rf_di s U) (fun j r => ?_)
  rintro ⟨b1, b2, b3, b4⟩ hd p q h1 h2 h3
  obtain ⟨u1, u2⟩ := hU r p b2.1 b2.2 h1
  obtain ⟨u3, u4⟩ := hU r q b2.1 b2.2 h2
  rw [h.rv b1 b3 (by omega), h.rv b1 b3 (by omega)] at h3
  exact hd p q u1 u3 h3
theorem rf_okV_up {nb ib ib' : Int} {s t : sx_S} (h : rf_EX nb ib s t) (hi : ib ≤ ib') {N : Int → rf_T → Prop} {y : rf_Y} (hb : rf_bd ib y) (k : rf_ok (rf_vb ib s) N y) : rf_ok (rf_vb ib' t) N y :=
  rf_ok_ext (ty := fun v x => rf_is s x (s.2.1 106 v.toNat)) (ty' := fun v x => rf_is t x (t.2.1 106 v.toNat)) (b := ib) (b' := ib') k hb (fun v x h0 h1 => by
    show rf_is t x (t.2.1 106 v.toNat) ↔ rf_is s x (s.2.1 106 v.toNat)
    rw [(h.2 v.toNat).2.2.1 (by omega)]
    exact h.is x _) hi
theorem rf_SV_up {nb ib nb' ib' : Int} {s t : sx_S} {g g' : rf_Gh} {x : Int} (h : rf_EX nb ib s t) (hn : nb ≤ nb') (hi : ib ≤ ib') (h0 : 0 ≤ x) (hm : x < s.1 66 61) (hs : s.2.1 111 x.toNat ≠ 0) (hU : ∀ r q, 0 ≤ r → r < s.1 66 61 → g'.2.2 r q → g.2.2 r q ∧ (q : Int) < rf_aa s r) (e1 : g'.1 x = g.1 x) (e2 : g'.2.1 x = g.2.1 x) (hx : ∀ v, (rf_fo (rf_Wd t g'.2.2) (g.1 x)).1 v → ∀ q, g.2.2 x q → rf_look (g.2.1 x) v = rf_fm s x q → g'.2.2 x q) (k : rf_SV nb ib s g x) : rf_SV nb' ib' t g' x := by
  obtain ⟨⟨a1, a2, a3, a4⟩, ⟨b1, b2, b3, b4⟩, ⟨⟨c1, c2⟩, c3, c4, c5⟩, d1, d2⟩ := k
  have eaa := h.aa h0 hm
  have e7 := h.1.2.2.1
  have e8 := h.1.2.2.2.2.2
  obtain ⟨f1, f2, f3, f4⟩ := ((h.2 x.toNat).2.2.2.1 (by omega)).2.2 hs
  have efm : ∀ q : Nat, (q : Int) < rf_aa s x → rf_fm t x q = rf_fm s x q := fun q hq => h.fm h0 hm hs c1 (by omega)
  have hbn := (rf_bn_gn a1).1 _ a2
  have hfo := (rf_Wd_up h hU (n := g.1 x)).1 hbn
  unfold rf_SV
  rw [e1, e2, f2, f3, f4, eaa]
  refine ⟨⟨h.no a1, ?_, a3, (rf_di_up h hU).1 hbn a4⟩, ⟨rf_by_mono (fun j hj => (h.2 j).2.2.2.2.2 hj) hn b1, rf_bd_mono hi b2, rf_okV_up h hi b2 b3, by omega⟩, ⟨⟨c1, by omega⟩, fun q hq => ?_, ?_, fun p q hp hq z => ?_⟩, fun v hv => ?_, fun v w hv hw => d2 v w (hfo v hv) (hfo w hw)⟩
  · refine (rf_gn_up h hi (fun v T => ?_) a1).1 _ a2
    rintro ⟨n1, q, n2, n3, n4⟩
    exact ⟨n1, q, by omega, by rw [efm q n2]; exact n3, h.pt h0 hm n4⟩
  · rw [efm q hq]
    rcases c3 q hq with ⟨T, t1, t2⟩ | z
    · exact Or.inl ⟨T, h.pt h0 hm t1, rf_vb_le hi ((h.vb (Int.le_refl _) _ _).mpr t2)⟩
    · exact Or.inr z
  · rcases c4 with z | z
    · exact Or.inl z
    · exact Or.inr (fun q hq => by rw [efm q hq]; exact z q hq)
  · rw [efm p hp, efm q hq] at z
    exact c5 p q hp hq z
  · obtain ⟨q, q1, q2⟩ := d1 v (hfo v hv)
    have q3 := hx v hv q q1 q2
    have q4 := (hU x q h0 hm q3).2
    exact ⟨q, q3, by rw [efm q q4]; exact q2⟩
/-- the ghosts of what was solved stay; no more variables are used -/
def rf_EG (s : sx_S) (g g' : rf_Gh) : Prop := ∀ z : Int, 0 ≤ z → z < s.1 66 61 → (s.2.1 111 z.toNat ≠ 0 → g'.1 z = g.1 z ∧ g'.2.1 z = g.2.1 z) ∧ ∀ q, g'.2.2 z q → g.2.2 z q
theorem rf_EG_refl (s : sx_S) (g : rf_Gh) : rf_EG s g g := fun _ _ _ => ⟨fun _ => ⟨rfl, rfl⟩, fun _ h => h⟩
theorem rf_EG_trans {nb ib : Int} {s t : sx_S} {g g' g2 : rf_Gh} (h : rf_EX nb ib s t) (h2 : rf_EG t g' g2) (h1 : rf_EG s g g') : rf_EG s g g2 := by
  intro z z0 z1
  have e8 := h.1.2.2.2.1
  obtain ⟨a1, a2⟩ := h1 z z0 z1
  obtain ⟨b1, b2⟩ := h2 z z0 (by omega)
  refine ⟨fun q => ?_, fun q hq => a2 q (b2 q hq)⟩
  obtain ⟨c1, c2⟩ := a1 q
  have e := ((h.2 z.toNat).2.2.2.1 (by omega)).2.2 q
  obtain ⟨d1, d2⟩ := b1 (by rw [e.1]; exact q)
  exact ⟨d1.trans c1, d2.trans c2⟩
theorem rf_Ed_up {nb ib : Int} {s t : sx_S} {g g' : rf_Gh} (h : rf_EX nb ib s t) (hg : rf_EG s g g') {a b : Int} (k : rf_Ed s g a b) : rf_Ed t g' a b := by
  obtain ⟨⟨k1, k2⟩, k3, k4⟩ := k
  have e8 := h.1.2.2.2.1
  have e := ((h.2 a.toNat).2.2.2.1 (by omega)).2.2 k3
  refine ⟨⟨k1, by omega⟩, by rw [e.1]; exact k3, ?_⟩
  rw [((hg a k1 k2).1 k3).1]
  exact k4
theorem rf_rc_up {nb ib : Int} {s t : sx_S} {g g' : rf_Gh} (h : rf_EX nb ib s t) (hg : rf_EG s g g') {a b : Int} (k : rf_rc (rf_Ed s g) a b) : rf_rc (rf_Ed t g') a b := rf_rc_mono (fun _ _ q => rf_Ed_up h hg q) k
/-- nothing is solved -/
theorem rf_MI_up {nb ib nb' ib' : Int} {s t : sx_S} {g : rf_Gh} (h : rf_EX nb ib s t) (hn : nb ≤ nb') (hi : ib ≤ ib') (e61 : t.1 66 61 = s.1 66 61) (e111 : ∀ j : Nat, (j : Int) < s.1 66 61 → t.2.1 111 j = s.2.1 111 j) (k : rf_MI nb ib s g) : rf_MI nb' ib' t g := by
  refine ⟨fun x h0 hm => ?_, fun x q => k.2 x (rf_rc_mono (fun a b z => ?_) q)⟩
  · rw [e61] at hm
    obtain ⟨k1, k2, k3, k4⟩ := k.1 x h0 hm
    have eaa := h.aa h0 hm
    have e1 := e111 x.toNat (by omega)
    refine ⟨fun q hq => ?_, fun q hq => ?_, fun z q hq => k3 (by rw [← e1]; exact z) q (by omega), fun z => ?_⟩
    · obtain ⟨T, hT⟩ := k1 q (by omega)
      exact ⟨T, h.pt h0 hm hT⟩
    · have := k2 q hq
      omega
    · rw [e1] at z
      exact rf_SV_up h hn hi h0 hm z (fun r q r0 r1 hq => ⟨hq, (k.1 r r0 r1).2.1 q hq⟩) rfl rfl (fun v _ q hq _ => hq) (k4 z)
  · obtain ⟨⟨z1, z2⟩, z3, z4⟩ := z
    rw [e61] at z2
    exact ⟨⟨z1, z2⟩, by rw [← e111 a.toNat (by omega)]; exact z3, z4⟩
/-- a new unknown -/
theorem rf_MI_new {nb ib nb' ib' : Int} {s t : sx_S} {g g' : rf_Gh} (h : rf_EX nb ib s t) (hn : nb ≤ nb') (hi : ib ≤ ib') (r61 : 0 ≤ s.1 66 61) (e61 : t.1 66 61 = s.1 66 61 + 1) (e111 : ∀ j : Nat, (j : Int) < s.1 66 61 → t.2.1 111 j = s.2.1 111 j) (eh : t.2.1 111 (s.1 66 61).toNat = 0) (hp : ∀ q : Nat, (q : Int) < rf_aa t (s.1 66 61) → ∃ T, rf_py t (s.1 66 61) q T) (g1 : g'.1 = g.1) (g2 : g'.2.1 = g.2.1) (g3 : ∀ r, r ≠ s.1 66 61 → g'.2.2 r = g.2.2 r) (g4 : ∀ q : Nat, g'.2.2 (s.1 66 61) q ↔ (q : Int) < rf_aa t (s.1 66 61)) (k : rf_MI nb ib s g) : rf_MI nb' ib' t g' ∧ rf_EG s g g' := by
  have hEG : rf_EG s g g' := fun z z0 z1 => ⟨fun _ => ⟨by rw [g1], by rw [g2]⟩, fun q hq => by rw [g3 z (by omega)] at hq; exact hq⟩
  refine ⟨⟨fun x h0 hm => ?_, fun x q => k.2 x (rf_rc_mono (fun a b z => ?_) q)⟩, hEG⟩
  · by_cases hx : x = s.1 66 61
    · subst hx
      exact ⟨hp, fun q hq => (g4 q).mp hq, fun _ q hq => (g4 q).mpr hq, fun z => absurd eh z⟩
    · have hm2 : x < s.1 66 61 := by omega
      obtain ⟨k1, k2, k3, k4⟩ := k.1 x h0 hm2
      have eaa := h.aa h0 hm2
      have e1 := e111 x.toNat (by omega)
      refine ⟨fun q hq => ?_, fun q hq => ?_, fun z q hq => ?_, fun z => ?_⟩
      · obtain ⟨T, hT⟩ := k1 q (by omega)
        exact ⟨T, h.pt h0 hm2 hT⟩
      · rw [g3 x hx] at hq
        have := k2 q hq
        omega
      · rw [g3 x hx]
        exact k3 (by rw [← e1]; exact z) q (by omega)
      · rw [e1] at z
        refine rf_SV_up h hn hi h0 hm2 z (fun r q r0 r1 hq => ?_) (by rw [g1]) (by rw [g2]) (fun v _ q hq _ => by rw [g3 x hx]; exact hq) (k4 z)
        rw [g3 r (by omega)] at hq
        exact ⟨hq, (k.1 r r0 r1).2.1 q hq⟩
  · obtain ⟨⟨z1, z2⟩, z3, z4⟩ := z
    have hne : a ≠ s.1 66 61 := fun e => by
      rw [e] at z3
      exact z3 eh
    refine ⟨⟨z1, by omega⟩, by rw [← e111 a.toNat (by omega)]; exact z3, by rw [← g1]; exact z4⟩
/-- an unknown is solved -/
theorem rf_MI_set {nb ib nb' ib' : Int} {s t : sx_S} {g g' : rf_Gh} {x : Int} (h : rf_EX nb ib s t) (hn : nb ≤ nb') (hi : ib ≤ ib') (hx0 : 0 ≤ x) (hxm : x < s.1 66 61) (e61 : t.1 66 61 = s.1 66 61) (hs0 : s.2.1 111 x.toNat = 0) (ht0 : t.2.1 111 x.toNat ≠ 0) (e111 : ∀ j : Nat, (j : Int) < s.1 66 61 → (j : Int) ≠ x → t.2.1 111 j = s.2.1 111 j) (g1 : ∀ z, z ≠ x → g'.1 z = g.1 z) (g2 : ∀ z, z ≠ x → g'.2.1 z = g.2.1 z) (g3 : ∀ z, z ≠ x → g'.2.2 z = g.2.2 z) (g4 : ∀ q : Nat, g'.2.2 x q → (q : Int) < rf_aa s x) (hSV : rf_SV nb' ib' t g' x) (hA : ∀ z, (rf_oc (g'.1 x)).1 z → z ≠ x ∧ ¬ rf_rc (rf_Ed s g) z x) (k : rf_MI nb ib s g) : rf_MI nb' ib' t g' ∧ rf_EG s g g' := by
  have hU : ∀ r q, 0 ≤ r → r < s.1 66 61 → g'.2.2 r q → g.2.2 r q ∧ (q : Int) < rf_aa s r := fun r q r0 r1 hq => by
    by_cases e : r = x
    · subst e
      exact ⟨(k.1 r r0 r1).2.2.1 hs0 q (g4 q hq), g4 q hq⟩
    · rw [g3 r e] at hq
      exact ⟨hq, (k.1 r r0 r1).2.1 q hq⟩
  have hEG : rf_EG s g g' := fun z z0 z1 => ⟨fun q => by
    have e : z ≠ x := fun e => by
      rw [e] at q
      exact q hs0
    exact ⟨g1 z e, g2 z e⟩, fun q hq => (hU z q z0 z1 hq).1⟩
  refine ⟨⟨fun y h0 hm => ?_, ?_⟩, hEG⟩
  · rw [e61] at hm
    obtain ⟨k1, k2, k3, k4⟩ := k.1 y h0 hm
    have eaa := h.aa h0 hm
    by_cases e : y = x
    · subst e
      refine ⟨fun q hq => ?_, fun q hq => by have := g4 q hq; omega, fun z => absurd z ht0, fun _ => hSV⟩
      obtain ⟨T, hT⟩ := k1 q (by omega)
      exact ⟨T, h.pt h0 hm hT⟩
    · have e1 := e111 y.toNat (by omega) (by omega)
      refine ⟨fun q hq => ?_, fun q hq => ?_, fun z q hq => ?_, fun z => ?_⟩
      · obtain ⟨T, hT⟩ := k1 q (by omega)
        exact ⟨T, h.pt h0 hm hT⟩
      · rw [g3 y e] at hq
        have := k2 q hq
        omega
      · rw [g3 y e]
        exact k3 (by rw [← e1]; exact z) q (by omega)
      · rw [e1] at z
        exact rf_SV_up h hn hi h0 hm z hU (g1 y e) (g2 y e) (fun v _ q hq _ => by rw [g3 y e]; exact hq) (k4 z)
  · refine rf_rc_acy (E := rf_Ed s g) (m := x) (S := fun z => (rf_oc (g'.1 x)).1 z) (fun a b z => ?_) hA k.2
    obtain ⟨⟨z1, z2⟩, z3, z4⟩ := z
    rw [e61] at z2
    by_cases e : a = x
    · subst e
      exact Or.inr ⟨rfl, z4⟩
    · refine Or.inl ⟨⟨z1, z2⟩, by rw [← e111 a.toNat (by omega) (by omega)]; exact z3, ?_⟩
      rw [← g1 a e]
      exact z4
/-- fewer variables are used than was thought -/
theorem rf_MI_shr {nb ib : Int} {s : sx_S} {g g' : rf_Gh} {x : Int} {p : Nat → Prop} (hs : s.2.1 111 x.toNat ≠ 0) (g1 : g'.1 = g.1) (g2 : g'.2.1 = g.2.1) (g3 : ∀ r q, g'.2.2 r q ↔ g.2.2 r q ∧ (r = x → p q)) (hp : ∀ v, (rf_fo (rf_Wd s g.2.2) (g.1 x)).1 v → ∀ q, g.2.2 x q → rf_look (g.2.1 x) v = rf_fm s x q → p q) (k : rf_MI nb ib s g) : rf_MI nb ib s g' ∧ rf_EG s g g' := by
  have hU : ∀ r q, 0 ≤ r → r < s.1 66 61 → g'.2.2 r q → g.2.2 r q ∧ (q : Int) < rf_aa s r := fun r q r0 r1 hq => ⟨((g3 r q).mp hq).1, (k.1 r r0 r1).2.1 q ((g3 r q).mp hq).1⟩
  refine ⟨⟨fun y h0 hm => ?_, fun y q => k.2 y (rf_rc_mono (fun a b z => ?_) q)⟩, fun z z0 z1 => ⟨fun _ => ⟨by rw [g1], by rw [g2]⟩, fun q hq => ((g3 z q).mp hq).1⟩⟩
  · obtain ⟨k1, k2, k3, k4⟩ := k.1 y h0 hm
    refine ⟨k1, fun q hq => (hU y q h0 hm hq).2, fun z q hq => (g3 y q).mpr ⟨k3 z q hq, fun e => ?_⟩, fun z => ?_⟩
    · rw [e] at z
      exact absurd z hs
    · have hfo := fun v => (rf_Wd_up (rf_EX_refl nb ib s) hU (n := g.1 y)).1 ((rf_bn_gn (k4 z).1.1).1 _ (k4 z).1.2.1) v
      refine rf_SV_up (rf_EX_refl nb ib s) (Int.le_refl _) (Int.le_refl _) h0 hm z hU (by rw [g1]) (by rw [g2]) (fun v hv q hq hl => (g3 y q).mpr ⟨hq, fun e => ?_⟩) (k4 z)
      subst e
      exact hp v (hfo v hv) q hq hl
  · obtain ⟨z1, z3, z4⟩ := z
    exact ⟨z1, z3, by rw [← g1]; exact z4⟩
