/-! ===== the reference: an unknown that becomes another one ===== -/
theorem rf_MI_head {nb ib : Int} {u t : sx_S} {g : rf_Gh} {x h : Int} {J : Nat} (hE : rf_EX nb ib u t) (hx0 : 0 ≤ x) (hxm : x < u.1 66 61) (e61 : t.1 66 61 = u.1 66 61) (hs0 : u.2.1 111 x.toNat = 0) (ht0 : t.2.1 111 x.toNat ≠ 0) (e111 : ∀ j : Nat, (j : Int) < u.1 66 61 → (j : Int) ≠ x → t.2.1 111 j = u.2.1 111 j) (hh0 : 0 ≤ h) (hhm : h < u.1 66 61) (hhx : h ≠ x) (hho : u.2.1 111 h.toNat = 0) (hJ : (J : Int) < t.1 66 50) (hk : t.2.1 100 J = 3 ∧ t.2.1 101 J = h ∧ t.2.1 102 J = -1 ∧ t.2.1 103 J = -1) (hb : 0 ≤ t.2.1 104 J ∧ t.2.1 104 J + rf_aa t h ≤ t.1 66 56) (e113 : t.2.1 113 x.toNat = (J : Int)) (e114 : t.2.1 114 x.toNat = -1) (h70 : 1 ≤ t.1 66 70) (hf1 : 0 ≤ t.2.1 112 x.toNat ∧ t.2.1 112 x.toNat + rf_aa t x ≤ t.1 66 56) (hf2 : ∀ q : Nat, (q : Int) < rf_aa t x → (∃ T, rf_py t x q T ∧ rf_vb ib t (rf_fm t x q) T) ∨ rf_fm t x q = -2 - (q : Int)) (hf3 : ∀ p q : Nat, (p : Int) < rf_aa t x → (q : Int) < rf_aa t x → rf_fm t x p = rf_fm t x q → p = q) (hrow : ∀ i : Nat, (i : Int) < rf_aa t h → ∃ p : Nat, (p : Int) < rf_aa t x ∧ rf_rv1 t J i = rf_fm t x p ∧ ∀ T, rf_py t h i T → rf_py t x p T) (hinj : ∀ i i' : Nat, (i : Int) < rf_aa t h → (i' : Int) < rf_aa t h → rf_rv1 t J i = rf_rv1 t J i' → i = i') (k : rf_MI nb ib u g) : ∃ g' : rf_Gh, rf_MI nb ib t g' ∧ rf_EG u g g' ∧ g'.1 x = rf_n J 3 h .leaf .leaf ∧ (∀ z, z ≠ x → g'.1 z = g.1 z) ∧ (∀ z, z ≠ x → g'.2.2 z = g.2.2 z) ∧ (∀ q, g'.2.2 x q → ∃ i : Nat, (i : Int) < rf_aa t h ∧ (q : Int) < rf_aa t x ∧ rf_rv1 t J i = rf_fm t x q) := by
  have eaa := hE.aa hh0 hhm
  have eax := hE.aa hx0 hxm
  refine ⟨(fun z => if z = x then rf_n J 3 h .leaf .leaf else g.1 z, fun z => if z = x then .leaf else g.2.1 z, fun z q => if z = x then (∃ i : Nat, (i : Int) < rf_aa t h ∧ (q : Int) < rf_aa t x ∧ rf_rv1 t J i = rf_fm t x q) else g.2.2 z q), ?_⟩
  generalize hg : ((fun z => if z = x then rf_n J 3 h .leaf .leaf else g.1 z, fun z => if z = x then .leaf else g.2.1 z, fun z q => if z = x then (∃ i : Nat, (i : Int) < rf_aa t h ∧ (q : Int) < rf_aa t x ∧ rf_rv1 t J i = rf_fm t x q) else g.2.2 z q) : rf_Gh) = g'
  have a1 : g'.1 x = rf_n J 3 h .leaf .leaf := by rw [← hg]; exact if_pos rfl
  have a2 : g'.2.1 x = .leaf := by rw [← hg]; exact if_pos rfl
  have a3 : ∀ q, g'.2.2 x q ↔ ∃ i : Nat, (i : Int) < rf_aa t h ∧ (q : Int) < rf_aa t x ∧ rf_rv1 t J i = rf_fm t x q := fun q => by
    rw [← hg]
    dsimp only
    rw [if_pos rfl]
  have b1 : ∀ z, z ≠ x → g'.1 z = g.1 z := fun z e => by rw [← hg]; exact if_neg e
  have b2 : ∀ z, z ≠ x → g'.2.1 z = g.2.1 z := fun z e => by rw [← hg]; exact if_neg e
  have b3 : ∀ z, z ≠ x → g'.2.2 z = g.2.2 z := fun z e => by
    rw [← hg]
    funext q
    exact if_neg e
  have hU : ∀ q, g'.2.2 h q → (q : Int) < rf_aa t h := fun q hq => by
    rw [b3 h hhx] at hq
    have := (k.1 h hh0 hhm).2.1 q hq
    omega
  have hfo : ∀ v, (rf_fo (rf_Wd t g'.2.2) (g'.1 x)).1 v → ∃ i : Nat, (i : Int) < rf_aa t h ∧ v = rf_rv1 t J i := fun v hv => by
    rw [a1] at hv
    rcases hv with ⟨_, q, q1, q2⟩ | ⟨c, _⟩ | ⟨c, _⟩
    · exact ⟨q, hU q q1, q2⟩
    · exact absurd c (show ¬ (3 : Int) = 0 by decide)
    · exact absurd c (show ¬ ((3 : Int) = 1 ∨ (3 : Int) = 2) by decide)
  have hSV : rf_SV nb ib t g' x := by
    refine ⟨⟨?_, ?_, ?_, ?_⟩, ⟨?_, ?_, ?_, ?_⟩, ⟨hf1, hf2, Or.inl ⟨a2, by rw [a1]; rfl⟩, hf3⟩, fun v hv => ?_, fun v w hv hw e => ?_⟩
    · rw [a1, e113]
      refine ⟨⟨rfl, hJ⟩, ⟨hk.1, hk.2.1⟩, hk.2.2.1, hk.2.2.2⟩
    · rw [a1]
      refine Or.inr ⟨(show (3 : Int) ≠ 0 by decide), .leaf, Or.inr (Or.inr (Or.inr ⟨rfl, rfl, ⟨hh0, by omega⟩, hb, fun i hi => ?_⟩)), rfl, rfl⟩
      have hi : (i : Int) < rf_aa t h := hi
      obtain ⟨p, p1, p2, p3⟩ := hrow i hi
      obtain ⟨T, hT⟩ := (k.1 h hh0 hhm).1 i (by omega)
      have hT2 := hE.pt hh0 hhm hT
      refine ⟨T, hT2, ?_⟩
      rw [p2]
      rcases hf2 p p1 with ⟨T', t1, t2⟩ | z
      · rw [rf_py_inj (p3 T hT2) t1]
        exact Or.inl t2
      · exact Or.inr ⟨by omega, p, p1, rfl, p3 T hT2⟩
    · rw [a1]
      show (5 : Nat) ≤ 200
      decide
    · rw [a1]
      exact ⟨fun _ p q hp hq e => hinj p q (hU p hp) (hU q hq) e, fun c => absurd c (show ¬ (3 : Int) = 0 by decide), fun c => absurd c (show ¬ ((3 : Int) = 1 ∨ (3 : Int) = 2) by decide)⟩
    · rw [a2]
      exact e114
    · rw [a2]
      trivial
    · rw [a2]
      exact rf_ok_nil
    · rw [a2]
      show ((0 : Nat) : Int) + 1 ≤ _
      omega
    · obtain ⟨i, i1, i2⟩ := hfo v hv
      obtain ⟨p, p1, p2, _⟩ := hrow i i1
      refine ⟨p, (a3 p).mpr ⟨i, i1, p1, p2⟩, ?_⟩
      rw [a2, i2]
      exact p2
    · rw [a2] at e
      exact e
  have := rf_MI_set hE (Int.le_refl _) (Int.le_refl _) hx0 hxm e61 hs0 ht0 e111 b1 b2 b3 (fun q hq => by
    obtain ⟨_, _, q2, _⟩ := (a3 q).mp hq
    omega) hSV (fun z hz => by
      rw [a1] at hz
      rcases hz with ⟨_, rfl⟩ | ⟨c, _⟩ | ⟨c, _⟩
      · refine ⟨hhx, fun q => rf_rc_out (fun b z => ?_) q⟩
        exact z.2.1 hho
      · exact absurd c (show ¬ (3 : Int) = 0 by decide)
      · exact absurd c (show ¬ ((3 : Int) = 1 ∨ (3 : Int) = 2) by decide)) k
  exact ⟨this.1, this.2, a1, b1, b3, fun q hq => (a3 q).mp hq⟩
/-! bits -/
/-- a bit is set -/
def rf_bt (b k : Int) : Prop := sx_b (fun x y => x &&& y) (sx_b (fun x y => x >>> (y &&& 31)) b k) 1 = 1
theorem rf_bits1 : ∀ b : Fin 16, ∀ k j : Fin 4, (0 ≤ sx_b (fun x y => x ||| y) (b.val : Int) (sx_b (fun x y => x <<< (y &&& 31)) 1 (k.val : Int)) ∧ sx_b (fun x y => x ||| y) (b.val : Int) (sx_b (fun x y => x <<< (y &&& 31)) 1 (k.val : Int)) ≤ 15) ∧ ((sx_b (fun x y => x &&& y) (sx_b (fun x y => x >>> (y &&& 31)) (sx_b (fun x y => x ||| y) (b.val : Int) (sx_b (fun x y => x <<< (y &&& 31)) 1 (k.val : Int))) (j.val : Int)) 1 = 1) ↔ (sx_b (fun x y => x &&& y) (sx_b (fun x y => x >>> (y &&& 31)) (b.val : Int) (j.val : Int)) 1 = 1 ∨ j.val = k.val)) := by decide +kernel
theorem rf_bits0 : ∀ b : Fin 16, sx_b (fun x y => x ||| y) (b.val : Int) 0 = (b.val : Int) := by decide +kernel
theorem rf_bitsM : ∀ b : Fin 16, ∀ a : Fin 5, (∀ j : Fin 4, a.val ≤ j.val → ¬ (sx_b (fun x y => x &&& y) (sx_b (fun x y => x >>> (y &&& 31)) (b.val : Int) (j.val : Int)) 1 = 1)) → ((b.val : Int) = sx_w true (sx_b (fun x y => x <<< (y &&& 31)) 1 (a.val : Int) - 1) ↔ ∀ j : Fin 4, j.val < a.val → sx_b (fun x y => x &&& y) (sx_b (fun x y => x >>> (y &&& 31)) (b.val : Int) (j.val : Int)) 1 = 1) := by decide +kernel
theorem rf_bitsZ : ∀ j : Fin 4, ¬ (sx_b (fun x y => x &&& y) (sx_b (fun x y => x >>> (y &&& 31)) 0 (j.val : Int)) 1 = 1) := by decide +kernel
/-- the bits so far: below k as G says, none from k on -/
def rf_bg (b k : Int) (G : Nat → Prop) : Prop := (0 ≤ b ∧ b ≤ 15) ∧ ∀ j : Nat, j < 4 → (rf_bt b (j : Int) → (j : Int) < k ∧ G j)
theorem rf_bg_m {b a : Int} {G : Nat → Prop} (ha : 0 ≤ a ∧ a ≤ 4) (h : rf_bg b a G) : b = sx_w true (sx_b (fun x y => x <<< (y &&& 31)) 1 a - 1) ↔ ∀ j : Nat, (j : Int) < a → rf_bt b (j : Int) := by
  obtain ⟨⟨h1, h2⟩, h3⟩ := h
  have eb : ((b.toNat : Nat) : Int) = b := by omega
  have ea : ((a.toNat : Nat) : Int) = a := by omega
  have e := rf_bitsM ⟨b.toNat, by omega⟩ ⟨a.toNat, by omega⟩
  dsimp only at e
  rw [eb, ea] at e
  have e2 := e (fun j hj q => by
    have := (h3 j.val j.isLt q).1
    omega)
  rw [e2]
  constructor
  · intro q j hj
    exact q ⟨j, by omega⟩ (by show j < a.toNat; omega)
  · intro q j hj
    exact q j.val (by omega)
