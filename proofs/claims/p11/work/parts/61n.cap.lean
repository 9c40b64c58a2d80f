/-! ===== what is enough: rows, nodes, links, piles ===== -/
def vx_sm (f : Int → Nat) : Nat → Nat
  | 0 => 0
  | n + 1 => vx_sm f n + f (n : Int)
theorem vx_sm_s (f : Int → Nat) (n : Nat) : vx_sm f (n + 1) = vx_sm f n + f (n : Int) := rfl
theorem vx_sm_cg {f g : Int → Nat} : ∀ {n : Nat}, (∀ i : Nat, i < n → f (i : Int) = g (i : Int)) → vx_sm f n = vx_sm g n
  | 0, _ => rfl
  | n + 1, h => by
    rw [vx_sm_s, vx_sm_s, vx_sm_cg (fun i hi => h i (by omega)), h n (by omega)]
/-- one place is changed -/
theorem vx_sm_up {f g : Int → Nat} {x : Int} : ∀ {n : Nat}, 0 ≤ x → x < (n : Int) → (∀ i : Nat, i < n → (i : Int) ≠ x → f (i : Int) = g (i : Int)) → vx_sm f n + g x = vx_sm g n + f x
  | 0, h0, h1, _ => by omega
  | n + 1, h0, h1, h => by
    rw [vx_sm_s, vx_sm_s]
    by_cases e : x = (n : Int)
    · have := vx_sm_cg (f := f) (g := g) (n := n) (fun i hi => h i (by omega) (by omega))
      rw [this, e]
      omega
    · have := vx_sm_up (f := f) (g := g) (x := x) (n := n) h0 (by omega) (fun i hi hx => h i (by omega) hx)
      have := h n (by omega) (by omega)
      omega
theorem vx_sm_at {f : Int → Nat} {x : Int} : ∀ {n : Nat}, 0 ≤ x → x < (n : Int) → f x ≤ vx_sm f n
  | 0, h0, h1 => by omega
  | n + 1, h0, h1 => by
    rw [vx_sm_s]
    by_cases e : x = (n : Int)
    · rw [e]
      omega
    · have := vx_sm_at (f := f) (x := x) (n := n) h0 (by omega)
      omega
def vx_ls (f : Int → Nat) : List Int → Nat
  | [] => 0
  | x :: l => f x + vx_ls f l
/-- distinct ones are not more than all -/
theorem vx_ls_sm {n : Nat} : ∀ {l : List Int} {f : Int → Nat}, l.Nodup → (∀ x ∈ l, 0 ≤ x ∧ x < (n : Int)) → vx_ls f l ≤ vx_sm f n
  | [], _, _, _ => Nat.zero_le _
  | x :: l, f, hn, hl => by
    obtain ⟨n1, n2⟩ := List.nodup_cons.mp hn
    obtain ⟨x0, x1⟩ := hl x List.mem_cons_self
    have ih := vx_ls_sm (n := n) (l := l) (f := fun y => if y = x then 0 else f y) n2 (fun y hy => hl y (List.mem_cons_of_mem _ hy))
    have e : vx_ls (fun y => if y = x then 0 else f y) l = vx_ls f l := by
      clear ih hn hl n2
      induction l with
      | nil => rfl
      | cons y l ihl =>
        show (if y = x then 0 else f y) + _ = f y + _
        rw [if_neg (fun q => n1 (by rw [q]; exact List.mem_cons_self)), ihl (fun m => n1 (List.mem_cons_of_mem _ m))]
    have u := vx_sm_up (f := fun y => if y = x then 0 else f y) (g := f) (x := x) (n := n) x0 x1 (fun i _ hx => if_neg hx)
    have u' : vx_sm (fun y => if y = x then 0 else f y) n + f x = vx_sm f n + (if x = x then 0 else f x) := u
    rw [if_pos rfl] at u'
    show f x + vx_ls f l ≤ _
    rw [← e]
    omega
theorem vx_ls_cg {f g : Int → Nat} : ∀ {l : List Int}, (∀ x ∈ l, f x = g x) → vx_ls f l = vx_ls g l
  | [], _ => rfl
  | x :: l, h => by
    show f x + vx_ls f l = g x + vx_ls g l
    rw [h x List.mem_cons_self, vx_ls_cg (fun y hy => h y (List.mem_cons_of_mem _ hy))]
/-- 1: open; 1: has a body that is no call -/
def vx_op (S : vx_S) (u : Int) : Nat := match S.2.2.2.1 u with
  | none => 1
  | some _ => 0
def vx_rw (S : vx_S) (u : Int) : Nat := match S.2.2.2.1 u with
  | none => 0
  | some (.leaf, _) => 0
  | some (.inner _ q _ _ _, _) => if q.1 = 3 then 0 else 1
def vx_aa (S : vx_S) (u : Int) : Nat := (S.2.2.1 u).toNat
/-- all bounds of the state -/
def vx_CT (S : vx_S) : Prop := True → 0 ≤ S.1 ∧ (vx_sm (vx_rw S) S.1.toNat + vx_sm (vx_op S) S.1.toNat ≤ 5) ∧ (vx_sm (vx_aa S) S.1.toNat + vx_sm (fun u => vx_op S u * (vx_aa S u * (vx_aa S u - 1) / 2)) S.1.toNat ≤ 50) ∧ (S.2.1 + (vx_sm (fun u => vx_op S u * (vx_aa S u * (vx_aa S u + 1) / 2)) S.1.toNat : Int) ≤ 1010) ∧ (S.1 + (vx_sm (fun u => vx_op S u * vx_aa S u) S.1.toNat : Int) ≤ 25) ∧ (∀ u, 0 ≤ u → u < S.1 → 0 ≤ S.2.2.1 u ∧ S.2.2.1 u ≤ 4) ∧ ∀ u B e, S.2.2.2.1 u = some (B, e) → vx_lh B ≤ 67 ∧ vx_hh B ≤ 26 ∧ vx_hz B ≤ 1024
theorem vx_op_1 {S : vx_S} {u : Int} (h : S.2.2.2.1 u = none) : vx_op S u = 1 ∧ vx_rw S u = 0 := by
  unfold vx_op vx_rw
  rw [h]
  exact ⟨rfl, rfl⟩
theorem vx_op_0 {S : vx_S} {u : Int} {p : rf_N × (Int → Int)} (h : S.2.2.2.1 u = some p) : vx_op S u = 0 := by
  unfold vx_op
  rw [h]
theorem vx_rw_3 {S : vx_S} {u : Int} {j : Nat} {m : Int} {F X : rf_N} {e : Int → Int} (h : S.2.2.2.1 u = some (rf_n j 3 m F X, e)) : vx_rw S u = 0 := by
  unfold vx_rw
  rw [h]
  exact if_pos rfl
theorem vx_rw_le (S : vx_S) (u : Int) : vx_rw S u ≤ 1 := by
  unfold vx_rw
  split
  · exact Nat.zero_le _
  · exact Nat.zero_le _
  · split
    · exact Nat.zero_le _
    · exact Nat.le_refl _
theorem vx_eq_bod {S T : vx_S} {u : Int} (h : T.2.2.2.1 u = S.2.2.2.1 u) : vx_op T u = vx_op S u ∧ vx_rw T u = vx_rw S u := by
  unfold vx_op vx_rw
  rw [h]
  exact ⟨rfl, rfl⟩
theorem vx_tri {k a : Nat} (h : k + 1 ≤ a) (ha : a ≤ 4) : k + k * (k - 1) / 2 ≤ a * (a - 1) / 2 ∧ 1 + k + k * (k + 1) / 2 ≤ a * (a + 1) / 2 := by
  have h1 : a = 1 ∨ a = 2 ∨ a = 3 ∨ a = 4 := by omega
  rcases h1 with rfl | rfl | rfl | rfl
  · obtain rfl : k = 0 := by omega
    decide
  · have : k = 0 ∨ k = 1 := by omega
    rcases this with rfl | rfl <;> decide
  · have : k = 0 ∨ k = 1 ∨ k = 2 := by omega
    rcases this with rfl | rfl | rfl <;> decide
  · have : k = 0 ∨ k = 1 ∨ k = 2 ∨ k = 3 := by omega
    rcases this with rfl | rfl | rfl | rfl <;> decide
/-- a narrowing keeps them -/
theorem vx_CT_nw {S T : vx_S} {x : Int} {j : Nat} {F : rf_N} {eu : Int → Int} {zs ks : List Int} (h : vx_nw S T x j F eu zs ks) (hk : (ks.length : Int) < S.2.2.1 x) (hN : T.2.1 = S.2.1 + 1 + (ks.length : Int)) (hC : vx_CT S) : vx_CT T := fun _ => by
  obtain ⟨c0, c1, c2, c3, c4, c5, c6⟩ := hC trivial
  obtain ⟨⟨a1, a2, a3, a4, a5⟩, ⟨b1, b2, b3, b4⟩, c, d, f, g1, g2, g3, g4, g5⟩ := h
  have hx := c5 x b3 b4
  have eT : T.1.toNat = S.1.toNat + 1 := by omega
  have en : ((S.1.toNat : Nat) : Int) = S.1 := Int.toNat_of_nonneg c0
  have ox := vx_op_1 b1
  have bx : T.2.2.2.1 x = some (rf_n j 3 S.1 F .leaf, eu) := by rw [d, if_pos rfl]
  have oTx : vx_op T x = 0 := vx_op_0 bx
  have rTx : vx_rw T x = 0 := vx_rw_3 bx
  have bn : T.2.2.2.1 S.1 = none := by rw [d, if_neg (by omega)]; exact b2
  have on := vx_op_1 bn
  have ot : ∀ i : Nat, i < S.1.toNat → (i : Int) ≠ x → vx_op T (i : Int) = vx_op S (i : Int) ∧ vx_rw T (i : Int) = vx_rw S (i : Int) := fun i hi hx => vx_eq_bod (by rw [d, if_neg hx])
  have at' : ∀ i : Nat, i < S.1.toNat → vx_aa T (i : Int) = vx_aa S (i : Int) := fun i hi => by
    unfold vx_aa
    rw [c, if_neg (by omega)]
  have an : vx_aa T S.1 = ks.length := by
    unfold vx_aa
    rw [c, if_pos rfl]
    omega
  have ax : vx_aa T x = vx_aa S x := by
    unfold vx_aa
    rw [c, if_neg (by omega)]
  have axl : ks.length + 1 ≤ vx_aa S x ∧ vx_aa S x ≤ 4 := by
    unfold vx_aa
    omega
  obtain ⟨t1, t2⟩ := vx_tri axl.1 axl.2
  have u1 := vx_sm_up (f := vx_rw T) (g := vx_rw S) (x := x) (n := S.1.toNat) b3 (by omega) (fun i hi hx => (ot i hi hx).2)
  have u2 := vx_sm_up (f := vx_op T) (g := vx_op S) (x := x) (n := S.1.toNat) b3 (by omega) (fun i hi hx => (ot i hi hx).1)
  have u3 := vx_sm_cg (f := vx_aa T) (g := vx_aa S) (n := S.1.toNat) at'
  have u4 := vx_sm_up (f := fun u => vx_op T u * (vx_aa T u * (vx_aa T u - 1) / 2)) (g := fun u => vx_op S u * (vx_aa S u * (vx_aa S u - 1) / 2)) (x := x) (n := S.1.toNat) b3 (by omega) (fun i hi hx => by rw [(ot i hi hx).1, at' i hi])
  have u5 := vx_sm_up (f := fun u => vx_op T u * (vx_aa T u * (vx_aa T u + 1) / 2)) (g := fun u => vx_op S u * (vx_aa S u * (vx_aa S u + 1) / 2)) (x := x) (n := S.1.toNat) b3 (by omega) (fun i hi hx => by rw [(ot i hi hx).1, at' i hi])
  have u6 := vx_sm_up (f := fun u => vx_op T u * vx_aa T u) (g := fun u => vx_op S u * vx_aa S u) (x := x) (n := S.1.toNat) b3 (by omega) (fun i hi hx => by rw [(ot i hi hx).1, at' i hi])
  try dsimp only at u4 u5 u6
  rw [ox.1, oTx, Nat.one_mul, Nat.zero_mul] at u4 u5 u6
  rw [ox.1, oTx] at u2
  rw [ox.2, rTx] at u1
  rw [eT, vx_sm_s, vx_sm_s, vx_sm_s, vx_sm_s, vx_sm_s, vx_sm_s, en, on.1, on.2, an, Nat.one_mul, Nat.one_mul, Nat.one_mul]
  refine ⟨by omega, by omega, by omega, by omega, by omega, fun u h0 hu => ?_, fun u B e hb => ?_⟩
  · rw [c]
    by_cases q : u = S.1
    · rw [if_pos q]
      omega
    · rw [if_neg q]
      exact c5 u h0 (by omega)
  · rw [d] at hb
    by_cases q : u = x
    · rw [if_pos q] at hb
      obtain ⟨rfl, rfl⟩ := Prod.mk.inj (Option.some.inj hb)
      rw [vx_lh_in, vx_hh_in, vx_hz_in, if_pos rfl, if_pos rfl, if_pos rfl]
      exact ⟨by decide, by decide, by decide⟩
    · rw [if_neg q] at hb
      exact c6 u B e hb
/-- giving a body keeps them -/
theorem vx_CT_gv {S T : vx_S} {u : Int} {B : rf_N} {eu : Int → Int} (h : vx_gv S T u B eu) (hB : vx_lh B ≤ 67 ∧ vx_hh B ≤ 26 ∧ vx_hz B ≤ 1024) (hC : vx_CT S) : vx_CT T := fun _ => by
  obtain ⟨c0, c1, c2, c3, c4, c5, c6⟩ := hC trivial
  obtain ⟨⟨a1, a2, a3, a4⟩, ⟨b1, b2, b3⟩, c, _⟩ := h
  have en : ((S.1.toNat : Nat) : Int) = S.1 := Int.toNat_of_nonneg c0
  have ox := vx_op_1 b1
  have bx : T.2.2.2.1 u = some (B, eu) := by rw [c, if_pos rfl]
  have oTx : vx_op T u = 0 := vx_op_0 bx
  have rTx := vx_rw_le T u
  have ot : ∀ i : Nat, i < S.1.toNat → (i : Int) ≠ u → vx_op T (i : Int) = vx_op S (i : Int) ∧ vx_rw T (i : Int) = vx_rw S (i : Int) := fun i hi hx => vx_eq_bod (by rw [c, if_neg hx])
  have at' : vx_aa T = vx_aa S := by
    unfold vx_aa
    rw [a3]
  have u1 := vx_sm_up (f := vx_rw T) (g := vx_rw S) (x := u) (n := S.1.toNat) b2 (by omega) (fun i hi hx => (ot i hi hx).2)
  have u2 := vx_sm_up (f := vx_op T) (g := vx_op S) (x := u) (n := S.1.toNat) b2 (by omega) (fun i hi hx => (ot i hi hx).1)
  have u4 := vx_sm_up (f := fun u => vx_op T u * (vx_aa S u * (vx_aa S u - 1) / 2)) (g := fun u => vx_op S u * (vx_aa S u * (vx_aa S u - 1) / 2)) (x := u) (n := S.1.toNat) b2 (by omega) (fun i hi hx => by rw [(ot i hi hx).1])
  have u5 := vx_sm_up (f := fun u => vx_op T u * (vx_aa S u * (vx_aa S u + 1) / 2)) (g := fun u => vx_op S u * (vx_aa S u * (vx_aa S u + 1) / 2)) (x := u) (n := S.1.toNat) b2 (by omega) (fun i hi hx => by rw [(ot i hi hx).1])
  have u6 := vx_sm_up (f := fun u => vx_op T u * vx_aa S u) (g := fun u => vx_op S u * vx_aa S u) (x := u) (n := S.1.toNat) b2 (by omega) (fun i hi hx => by rw [(ot i hi hx).1])
  try dsimp only at u4 u5 u6
  rw [ox.1, oTx, Nat.one_mul, Nat.zero_mul] at u4 u5 u6
  rw [ox.1, oTx] at u2
  rw [ox.2] at u1
  rw [at', a1, a2, a3]
  refine ⟨c0, by omega, by omega, by omega, by omega, c5, fun v B' e hb => ?_⟩
  rw [c] at hb
  by_cases q : v = u
  · rw [if_pos q] at hb
    obtain ⟨rfl, rfl⟩ := Prod.mk.inj (Option.some.inj hb)
    exact hB
  · rw [if_neg q] at hb
    exact c6 v B' e hb
