section
/-! ===== what is enough: rows, nodes, links, piles ===== -/
def vx_sm (f : Int → Nat) : Nat → Nat
  | 0 => 0
  | n + 1 => vx_sm f n + f (n : Int)
theorem vx_sm_s (f : Int → Nat) (n : Nat) : vx_sm f (n + 1) = vx_sm f n + f (n : Int) := rfl
theorem vx_sm_cg {f g : Int → Nat} : ∀ {n : Nat}, (∀ i : Nat, i < n → f (i : Int) = g (i : Int)) → vx_sm f n = vx_sm g n
  | 0, _ => rfl
  | n + 1, h => by
    rw [vx_sm_s, vx_sm_s, vx_sm_cg (fun i hi => h i (by omega)), h n (by omega)]
/-- one place is changed -/
theorem vx_sm_up {f g : Int → Nat} {x : Int} : ∀ {n : Nat}, 0 ≤ x → x < (n : Int) → (∀ i : Nat, i < n → (i : Int) ≠ x → f (i : Int) = g (i : Int)) → vx_sm f n + g x = vx_sm g n + f x
  | 0, h0, h1, _ => by omega
  | n + 1, h0, h1, h => by
    rw [vx_sm_s, vx_sm_s]
    by_cases e : x = (n : Int)
    · have := vx_sm_cg (f := f) (g := g) (n := n) (fun i hi => h i (by omega) (by omega))
      rw [this, e]
      omega
    · have := vx_sm_up (f := f) (g := g) (x := x) (n := n) h0 (by omega) (fun i hi hx => h i (by omega) hx)
      have := h n (by omega) (by omega)
      omega
theorem vx_sm_at {f : Int → Nat} {x : Int} : ∀ {n : Nat}, 0 ≤ x → x < (n : Int) → f x ≤ vx_sm f n
  | 0, h0, h1 => by omega
  | n + 1, h0, h1 => by
    rw [vx_sm_s]
    by_cases e : x = (n : Int)
    · rw [e]
      omega
    · have := vx_sm_at (f := f) (x := x) (n := n) h0 (by omega)
      omega
def vx_ls (f : Int → Nat) : List Int → Nat
  | [] => 0
  | x :: l => f x + vx_ls f l
/-- distinct ones are not more than all -/
theorem vx_ls_sm {n : Nat} : ∀ {l : List Int} {f : Int → Nat}, l.Nodup → (∀ x ∈ l, 0 ≤ x ∧ x < (n : Int)) → vx_ls f l ≤ vx_sm f n
  | [], _, _, _ => Nat.zero_le _
  | x :: l, f, hn, hl => by
    obtain ⟨n1, n2⟩ := List.nodup_cons.mp hn
    obtain ⟨x0, x1⟩ := hl x List.mem_cons_self
    have ih := vx_ls_sm (n := n) (l := l) (f := fun y => if y = x then 0 else f y) n2 (fun y hy => hl y (List.mem_cons_of_mem _ hy))
    have e : vx_ls (fun y => if y = x then 0 else f y) l = vx_ls f l := by
      clear ih hn hl n2
      induction l with
      | nil => rfl
      | cons y l ihl =>
        show (if y = x then 0 else f y) + _ = f y + _
        rw [if_neg (fun q => n1 (by rw [q]; exact List.mem_cons_self)), ihl (fun m => n1 (List.mem_cons_of_mem _ m))]
    have u := vx_sm_up (f := fun y => if y = x then 0 else f y) (g := f) (x := x) (n := n) x0 x1 (fun i _ hx => if_neg hx)
    have u' : vx_sm (fun y => if y = x then 0 else f y) n + f x = vx_sm f n + (if x = x then 0 else f x) := u
    rw [if_pos rfl] at u'
    show f x + vx_ls f l ≤ _
    rw [← e]
    omega
theorem vx_ls_cg {f g : Int → Nat} : ∀ {l : List Int}, (∀ x ∈ l, f x = g x) → vx_ls f l = vx_ls g l
  | [], _ => rfl
  | x :: l, h => by
    show f x + vx_ls f l = g x + vx_ls g l
    rw [h x List.mem_cons_self, vx_ls_cg (fun y hy => h y (List.mem_cons_of_mem _ hy))]
/-- 1: open; 1: has a body that is no call -/
def vx_op (S : vx_S) (u : Int) : Nat := match S.2.2.2.1 u with
  | none => 1
  | some _ => 0
def vx_rw (S : vx_S) (u : Int) : Nat := match S.2.2.2.1 u with
  | none => 0
  | some (.leaf, _) => 0
  | some (.inner _ q _ _ _, _) => if q.1 = 3 then 0 else 1
def vx_aa (S : vx_S) (u : Int) : Nat := (S.2.2.1 u).toNat
/-- all bounds of the state -/
def vx_CT (S : vx_S) : Prop := True → 0 ≤ S.1 ∧ (vx_sm (vx_rw S) S.1.toNat + vx_sm (vx_op S) S.1.toNat ≤ 5) ∧ (vx_sm (vx_aa S) S.1.toNat + vx_sm (fun u => vx_op S u * (vx_aa S u * (vx_aa S u - 1) / 2)) S.1.toNat ≤ 50) ∧ (S.2.1 + (vx_sm (fun u => vx_op S u * (vx_aa S u * (vx_aa S u + 1) / 2)) S.1.toNat : Int) ≤ 1010) ∧ (S.1 + (vx_sm (fun u => vx_op S u * vx_aa S u) S.1.toNat : Int) ≤ 25) ∧ (∀ u, 0 ≤ u → u < S.1 → 0 ≤ S.2.2.1 u ∧ S.2.2.1 u ≤ 4) ∧ ∀ u B e, S.2.2.2.1 u = some (B, e) → vx_lh B ≤ 67 ∧ vx_hh B ≤ 26 ∧ vx_hz B ≤ 1024
theorem vx_op_1 {S : vx_S} {u : Int} (h : S.2.2.2.1 u = none) : vx_op S u = 1 ∧ vx_rw S u = 0 := by
  unfold vx_op vx_rw
  rw [h]
  exact ⟨rfl, rfl⟩
theorem vx_op_0 {S : vx_S} {u : Int} {p : rf_N × (Int → Int)} (h : S.2.2.2.1 u = some p) : vx_op S u = 0 := by
  unfold vx_op
  rw [h]
theorem vx_rw_3 {S : vx_S} {u : Int} {j : Nat} {m : Int} {F X : rf_N} {e : Int → Int} (h : S.2.2.2.1 u = some (rf_n j 3 m F X, e)) : vx_rw S u = 0 := by
  unfold vx_rw
  rw [h]
  exact if_pos rfl
theorem vx_rw_le (S : vx_S) (u : Int) : vx_rw S u ≤ 1 := by
  unfold vx_rw
  split
  · exact Nat.zero_le _
  · exact Nat.zero_le _
  · split
    · exact Nat.zero_le _
    · exact Nat.le_refl _
theorem vx_eq_bod {S T : vx_S} {u : Int} (h : T.2.2.2.1 u = S.2.2.2.1 u) : vx_op T u = vx_op S u ∧ vx_rw T u = vx_rw S u := by
  unfold vx_op vx_rw
  rw [h]
  exact ⟨rfl, rfl⟩
theorem vx_tri {k a : Nat} (h : k + 1 ≤ a) (ha : a ≤ 4) : k + k * (k - 1) / 2 ≤ a * (a - 1) / 2 ∧ 1 + k + k * (k + 1) / 2 ≤ a * (a + 1) / 2 := by
  have h1 : a = 1 ∨ a = 2 ∨ a = 3 ∨ a = 4 := by omega
  rcases h1 with rfl | rfl | rfl | rfl
  · obtain rfl : k = 0 := by omega
    decide
  · have : k = 0 ∨ k = 1 := by omega
    rcases this with rfl | rfl <;> decide
  · have : k = 0 ∨ k = 1 ∨ k = 2 := by omega
    rcases this with rfl | rfl | rfl <;> decide
  · have : k = 0 ∨ k = 1 ∨ k = 2 ∨ k = 3 := by omega
    rcases this with rfl | rfl | rfl | rfl <;> decide
/-- a narrowing keeps them -/
theorem vx_CT_nw {S T : vx_S} {x : Int} {j : Nat} {F : rf_N} {eu : Int → Int} {zs ks : List Int} (h : vx_nw S T x j F eu zs ks) (hk : (ks.length : Int) < S.2.2.1 x) (hN : T.2.1 = S.2.1 + 1 + (ks.length : Int)) (hC : vx_CT S) : vx_CT T := fun _ => by
  obtain ⟨c0, c1, c2, c3, c4, c5, c6⟩ := hC trivial
  obtain ⟨⟨a1, a2, a3, a4, a5⟩, ⟨b1, b2, b3, b4⟩, c, d, f, g1, g2, g3, g4, g5⟩ := h
  have hx := c5 x b3 b4
  have eT : T.1.toNat = S.1.toNat + 1 := by omega
  have en : ((S.1.toNat : Nat) : Int) = S.1 := Int.toNat_of_nonneg c0
  have ox := vx_op_1 b1
  have bx : T.2.2.2.1 x = some (rf_n j 3 S.1 F .leaf, eu) := by rw [d, if_pos rfl]
  have oTx : vx_op T x = 0 := vx_op_0 bx
  have rTx : vx_rw T x = 0 := vx_rw_3 bx
  have bn : T.2.2.2.1 S.1 = none := by rw [d, if_neg (by omega)]; exact b2
  have on := vx_op_1 bn
  have ot : ∀ i : Nat, i < S.1.toNat → (i : Int) ≠ x → vx_op T (i : Int) = vx_op S (i : Int) ∧ vx_rw T (i : Int) = vx_rw S (i : Int) := fun i hi hx => vx_eq_bod (by rw [d, if_neg hx])
  have at' : ∀ i : Nat, i < S.1.toNat → vx_aa T (i : Int) = vx_aa S (i : Int) := fun i hi => by
    unfold vx_aa
    rw [c, if_neg (by omega)]
  have an : vx_aa T S.1 = ks.length := by
    unfold vx_aa
    rw [c, if_pos rfl]
    omega
  have ax : vx_aa T x = vx_aa S x := by
    unfold vx_aa
    rw [c, if_neg (by omega)]
  have axl : ks.length + 1 ≤ vx_aa S x ∧ vx_aa S x ≤ 4 := by
    unfold vx_aa
    omega
  obtain ⟨t1, t2⟩ := vx_tri axl.1 axl.2
  have u1 := vx_sm_up (f := vx_rw T) (g := vx_rw S) (x := x) (n := S.1.toNat) b3 (by omega) (fun i hi hx => (ot i hi hx).2)
  have u2 := vx_sm_up (f := vx_op T) (g := vx_op S) (x := x) (n := S.1.toNat) b3 (by omega) (fun i hi hx => (ot i hi hx).1)
  have u3 := vx_sm_cg (f := vx_aa T) (g := vx_aa S) (n := S.1.toNat) at'
  have u4 := vx_sm_up (f := fun u => vx_op T u * (vx_aa T u * (vx_aa T u - 1) / 2)) (g := fun u => vx_op S u * (vx_aa S u * (vx_aa S u - 1) / 2)) (x := x) (n := S.1.toNat) b3 (by omega) (fun i hi hx => by rw [(ot i hi hx).1, at' i hi])
  have u5 := vx_sm_up (f := fun u => vx_op T u * (vx_aa T u * (vx_aa T u + 1) / 2)) (g := fun u => vx_op S u * (vx_aa S u * (vx_aa S u + 1) / 2)) (x := x) (n := S.1.toNat) b3 (by omega) (fun i hi hx => by rw [(ot i hi hx).1, at' i hi])
  have u6 := vx_sm_up (f := fun u => vx_op T u * vx_aa T u) (g := fun u => vx_op S u * vx_aa S u) (x := x) (n := S.1.toNat) b3 (by omega) (fun i hi hx => by rw [(ot i hi hx).1, at' i hi])
  try dsimp only at u4 u5 u6
  rw [ox.1, oTx, Nat.one_mul, Nat.zero_mul] at u4 u5 u6
  rw [ox.1, oTx] at u2
  rw [ox.2, rTx] at u1
  rw [eT, vx_sm_s, vx_sm_s, vx_sm_s, vx_sm_s, vx_sm_s, vx_sm_s, en, on.1, on.2, an, Nat.one_mul, Nat.one_mul, Nat.one_mul]
  refine ⟨by omega, by omega, by omega, by omega, by omega, fun u h0 hu => ?_, fun u B e hb => ?_⟩
  · rw [c]
    by_cases q : u = S.1
    · rw [if_pos q]
      omega
    · rw [if_neg q]
      exact c5 u h0 (by omega)
  · rw [d] at hb
    by_cases q : u = x
    · rw [if_pos q] at hb
      obtain ⟨rfl, rfl⟩ := Prod.mk.inj (Option.some.inj hb)
      rw [vx_lh_in, vx_hh_in, vx_hz_in, if_pos rfl, if_pos rfl, if_pos rfl]
      exact ⟨by decide, by decide, by decide⟩
    · rw [if_neg q] at hb
      exact c6 u B e hb
/-- giving a body keeps them -/
theorem vx_CT_gv {S T : vx_S} {u : Int} {B : rf_N} {eu : Int → Int} (h : vx_gv S T u B eu) (hB : vx_lh B ≤ 67 ∧ vx_hh B ≤ 26 ∧ vx_hz B ≤ 1024) (hC : vx_CT S) : vx_CT T := fun _ => by
  obtain ⟨c0, c1, c2, c3, c4, c5, c6⟩ := hC trivial
  obtain ⟨⟨a1, a2, a3, a4⟩, ⟨b1, b2, b3⟩, c, _⟩ := h
  have en : ((S.1.toNat : Nat) : Int) = S.1 := Int.toNat_of_nonneg c0
  have ox := vx_op_1 b1
  have bx : T.2.2.2.1 u = some (B, eu) := by rw [c, if_pos rfl]
  have oTx : vx_op T u = 0 := vx_op_0 bx
  have rTx := vx_rw_le T u
  have ot : ∀ i : Nat, i < S.1.toNat → (i : Int) ≠ u → vx_op T (i : Int) = vx_op S (i : Int) ∧ vx_rw T (i : Int) = vx_rw S (i : Int) := fun i hi hx => vx_eq_bod (by rw [c, if_neg hx])
  have at' : vx_aa T = vx_aa S := by
    unfold vx_aa
    rw [a3]
  have u1 := vx_sm_up (f := vx_rw T) (g := vx_rw S) (x := u) (n := S.1.toNat) b2 (by omega) (fun i hi hx => (ot i hi hx).2)
  have u2 := vx_sm_up (f := vx_op T) (g := vx_op S) (x := u) (n := S.1.toNat) b2 (by omega) (fun i hi hx => (ot i hi hx).1)
  have u4 := vx_sm_up (f := fun u => vx_op T u * (vx_aa S u * (vx_aa S u - 1) / 2)) (g := fun u => vx_op S u * (vx_aa S u * (vx_aa S u - 1) / 2)) (x := u) (n := S.1.toNat) b2 (by omega) (fun i hi hx => by rw [(ot i hi hx).1])
  have u5 := vx_sm_up (f := fun u => vx_op T u * (vx_aa S u * (vx_aa S u + 1) / 2)) (g := fun u => vx_op S u * (vx_aa S u * (vx_aa S u + 1) / 2)) (x := u) (n := S.1.toNat) b2 (by omega) (fun i hi hx => by rw [(ot i hi hx).1])
  have u6 := vx_sm_up (f := fun u => vx_op T u * vx_aa S u) (g := fun u => vx_op S u * vx_aa S u) (x := u) (n := S.1.toNat) b2 (by omega) (fun i hi hx => by rw [(ot i hi hx).1])
  try dsimp only at u4 u5 u6
  rw [ox.1, oTx, Nat.one_mul, Nat.zero_mul] at u4 u5 u6
  rw [ox.1, oTx] at u2
  rw [ox.2] at u1
  rw [at', a1, a2, a3]
  refine ⟨c0, by omega, by omega, by omega, by omega, c5, fun v B' e hb => ?_⟩
  rw [c] at hb
  by_cases q : v = u
  · rw [if_pos q] at hb
    obtain ⟨rfl, rfl⟩ := Prod.mk.inj (Option.some.inj hb)
    exact hB
  · rw [if_neg q] at hb
    exact c6 v B' e hb
end
section
/-! ===== the unknowns gone through on the way down: what may still be needed ===== -/
def vx_wu (S : vx_S) (w : List Int) (A : rf_N) : Prop := True → (∀ m ∈ w, ∃ p, S.2.2.2.1 m = some p) ∧ ∀ rk, vx_rk S rk → w.Pairwise (fun a b => rk a < rk b) ∧ ∀ m ∈ w, vx_bl rk (rk m) A
theorem vx_wu_nil (S : vx_S) (A : rf_N) : vx_wu S [] A := fun _ => ⟨fun _ h => absurd h List.not_mem_nil, fun _ _ => ⟨List.Pairwise.nil, fun _ h => absurd h List.not_mem_nil⟩⟩
theorem vx_wu_sub {S : vx_S} {w : List Int} {A A' : rf_N} (hm : ∀ m, vx_mt m A' → vx_mt m A) (h : vx_wu S w A) : vx_wu S w A' := fun _ => by
  obtain ⟨h1, h2⟩ := h trivial
  exact ⟨h1, fun rk hr => ⟨(h2 rk hr).1, fun m hm' x hx => (h2 rk hr).2 m hm' x (hm x hx)⟩⟩
theorem vx_wu_in {S : vx_S} {w : List Int} {A B : rf_N} {m : Int} {e : Int → Int} (hb : S.2.2.2.1 m = some (B, e)) (hm : vx_mt m A) (h : vx_wu S w A) : vx_wu S (m :: w) B := fun _ => by
  obtain ⟨h1, h2⟩ := h trivial
  refine ⟨fun x hx => ?_, fun rk hr => ⟨List.pairwise_cons.mpr ⟨fun b hb' => (h2 rk hr).2 b hb' m hm, (h2 rk hr).1⟩, fun x hx y hy => ?_⟩⟩
  · rcases List.mem_cons.mp hx with rfl | hx
    · exact ⟨_, hb⟩
    · exact h1 x hx
  · have q := hr m B e y hb hy
    rcases List.mem_cons.mp hx with rfl | hx
    · exact q
    · have := (h2 rk hr).2 x hx m hm
      omega
theorem vx_wu_le {S T : vx_S} {w : List Int} {A : rf_N} (hle : vx_le S T) (h : vx_wu S w A) : vx_wu T w A := fun _ => by
  obtain ⟨h1, h2⟩ := h trivial
  refine ⟨fun m hm => ?_, fun rk hr => h2 rk (fun u B e m hb hm => hr u B e m (hle.2.2.1 u B e hb) hm)⟩
  obtain ⟨⟨B, e⟩, hp⟩ := h1 m hm
  exact ⟨(B, e), hle.2.2.1 m B e hp⟩
theorem vx_wu_nd {S : vx_S} {w : List Int} {A : rf_N} {rk : Int → Nat} (hr : vx_rk S rk) (hW : vx_W S) (h : vx_wu S w A) : w.Nodup ∧ ∀ m ∈ w, 0 ≤ m ∧ m < S.1 := by
  obtain ⟨h1, h2⟩ := h trivial
  refine ⟨List.Pairwise.imp (fun q e => by rw [e] at q; exact Nat.lt_irrefl _ q) (h2 rk hr).1, fun m hm => ?_⟩
  obtain ⟨⟨B, e⟩, hp⟩ := h1 m hm
  exact (hW m B e hp).1
/-- links and heads of what has been gone through -/
def vx_lc (S : vx_S) (w : List Int) : Nat := vx_ls (vx_aa S) w + 67 * vx_ls (vx_rw S) w
theorem vx_lc_bd {S : vx_S} {w : List Int} {A : rf_N} {rk : Int → Nat} (hr : vx_rk S rk) (hW : vx_W S) (hC : vx_CT S) (h : vx_wu S w A) : vx_ls (vx_aa S) w ≤ 50 ∧ vx_ls (vx_rw S) w ≤ 5 := by
  obtain ⟨n1, n2⟩ := vx_wu_nd hr hW h
  obtain ⟨c0, c1, c2, _⟩ := hC trivial
  have n3 : ∀ m ∈ w, 0 ≤ m ∧ m < ((S.1.toNat : Nat) : Int) := fun m hm => by
    have := n2 m hm
    omega
  have a := vx_ls_sm (f := vx_aa S) n1 n3
  have b := vx_ls_sm (f := vx_rw S) n1 n3
  omega
theorem vx_lc_le {S T : vx_S} {w : List Int} {A : rf_N} (hle : vx_le S T) (hW : vx_W S) (h : vx_wu S w A) : vx_ls (vx_aa T) w = vx_ls (vx_aa S) w ∧ vx_ls (vx_rw T) w = vx_ls (vx_rw S) w := by
  obtain ⟨h1, _⟩ := h trivial
  refine ⟨vx_ls_cg (fun m hm => ?_), vx_ls_cg (fun m hm => ?_)⟩
  · obtain ⟨⟨B, e⟩, hp⟩ := h1 m hm
    have := (hW m B e hp).1
    unfold vx_aa
    rw [hle.2.1 m this.1 this.2]
  · obtain ⟨⟨B, e⟩, hp⟩ := h1 m hm
    exact (vx_eq_bod (by rw [hp]; exact hle.2.2.1 m B e hp)).2
/-- a body that is a call has no \ and no head of its own -/
theorem vx_lh_body {S : vx_S} {m : Int} {B : rf_N} {e : Int → Int} (hC : vx_CT S) (hs : vx_sg B) (hb : S.2.2.2.1 m = some (B, e)) : vx_lh B ≤ 67 * vx_rw S m ∧ vx_hh B ≤ 26 * vx_rw S m ∧ vx_hz B ≤ 1024 := by
  obtain ⟨_, _, _, _, _, _, c6⟩ := hC trivial
  obtain ⟨l1, l2, l3⟩ := c6 m B e hb
  obtain ⟨j, k, h, F, rfl⟩ := hs
  by_cases q : k = 3
  · subst q
    rw [vx_lh_in, vx_hh_in, if_pos rfl, if_pos rfl]
    exact ⟨Nat.zero_le _, Nat.zero_le _, l3⟩
  · have : vx_rw S m = 1 := by
      unfold vx_rw
      rw [hb]
      exact if_neg q
    rw [this]
    omega
theorem vx_lh_call {j : Nat} {m : Int} {F : rf_N} : vx_lh (rf_n j 3 m F .leaf) = 0 ∧ vx_hh (rf_n j 3 m F .leaf) = 0 := by
  rw [vx_lh_in, vx_hh_in, if_pos rfl, if_pos rfl]
  exact ⟨rfl, rfl⟩
/-- a pair at place i of the pile, u links used -/
def vx_c2 (S : vx_S) (A B : rf_N) (u L : Int) (i : Nat) : Prop := True → ∃ wa wb, (vx_wu S wa A ∧ vx_wu S wb B) ∧ (vx_lh A ≤ 67 ∧ vx_hh A ≤ 26 ∧ vx_lh B ≤ 67 ∧ vx_hh B ≤ 26 ∧ vx_hz A ≤ 1024 ∧ vx_hz B ≤ 1024) ∧ (u + (vx_lh A : Int) + (vx_lh B : Int) ≤ 134 + (vx_lc S wa : Int) + (vx_lc S wb : Int)) ∧ (L + (vx_lh A : Int) ≤ 67 + 67 * (vx_ls (vx_rw S) wa : Int)) ∧ (i + 3 * vx_hh A ≤ 82 + 78 * vx_ls (vx_rw S) wa)
theorem vx_c2_bd {S : vx_S} {A B : rf_N} {u L : Int} {i : Nat} {rk : Int → Nat} (hr : vx_rk S rk) (hW : vx_W S) (hC : vx_CT S) (h : vx_c2 S A B u L i) : u + (vx_lh A : Int) + (vx_lh B : Int) ≤ 904 ∧ L + (vx_lh A : Int) ≤ 402 ∧ i + 3 * vx_hh A ≤ 472 := by
  obtain ⟨wa, wb, ⟨a1, a2⟩, _, b1, b2, b3⟩ := h trivial
  have c1 := vx_lc_bd hr hW hC a1
  have c2 := vx_lc_bd hr hW hC a2
  have d1 : vx_lc S wa ≤ 385 := by
    unfold vx_lc
    omega
  have d2 : vx_lc S wb ≤ 385 := by
    unfold vx_lc
    omega
  omega
theorem vx_c2_le {S T : vx_S} {A B : rf_N} {u L : Int} {i : Nat} (hle : vx_le S T) (hW : vx_W S) (h : vx_c2 S A B u L i) : vx_c2 T A B u L i := fun _ => by
  obtain ⟨wa, wb, ⟨a1, a2⟩, a3, b1, b2, b3⟩ := h trivial
  have e1 := vx_lc_le hle hW a1
  have e2 := vx_lc_le hle hW a2
  refine ⟨wa, wb, ⟨vx_wu_le hle a1, vx_wu_le hle a2⟩, a3, ?_, by rw [e1.2]; exact b2, by rw [e1.2]; exact b3⟩
  unfold vx_lc at b1 ⊢
  rw [e1.1, e1.2, e2.1, e2.2]
  exact b1
/-- a pair is taken -/
theorem vx_c2_rd {S : vx_S} {A B A' B' : rf_N} {c d c' d' : List (Int × Int)} {u u' L L' : Int} {i : Nat} (hd : vx_rd S A c B d L A' c' B' d' L') (hu : u' + (vx_lh A' : Int) + (vx_lh B' : Int) ≤ u + (vx_lh A : Int) + (vx_lh B : Int)) (hL : L' + (vx_lh A' : Int) ≤ L + (vx_lh A : Int)) (h : vx_c2 S A B u L i) : vx_c2 S A' B' u' L' i := fun _ => by
  obtain ⟨wa, wb, ⟨a1, a2⟩, a3, b1, b2, b3⟩ := h trivial
  obtain ⟨_, ⟨r1, r2, r3, r4, r7, r8⟩, r5, r6, _⟩ := hd trivial
  exact ⟨wa, wb, ⟨vx_wu_sub r5 a1, vx_wu_sub r6 a2⟩, ⟨by omega, by omega, by omega, by omega, by omega, by omega⟩, by omega, by omega, by omega⟩
/-- into a body on the left, on the right -/
theorem vx_c2_l {S : vx_S} {j : Nat} {m : Int} {F X B : rf_N} {e : Int → Int} {u u' L : Int} {i : Nat} (hC : vx_CT S) (hs : vx_sg X) (hb : S.2.2.2.1 m = some (X, e)) (hu : u' ≤ u + (vx_aa S m : Int)) (h : vx_c2 S (rf_n j 3 m F .leaf) B u L i) : vx_c2 S X B u' L i := fun _ => by
  obtain ⟨wa, wb, ⟨a1, a2⟩, ⟨a3, a4, a5, a6, a7, a8⟩, b1, b2, b3⟩ := h trivial
  obtain ⟨l1, l2, l5⟩ := vx_lh_body hC hs hb
  have l3 := vx_lh_call (j := j) (m := m) (F := F)
  have l4 := vx_rw_le S m
  rw [l3.1] at b1 b2
  rw [l3.2] at b3
  have e1 : vx_ls (vx_rw S) (m :: wa) = vx_rw S m + vx_ls (vx_rw S) wa := rfl
  have e2 : vx_ls (vx_aa S) (m :: wa) = vx_aa S m + vx_ls (vx_aa S) wa := rfl
  refine ⟨m :: wa, wb, ⟨vx_wu_in (A := rf_n j 3 m F .leaf) hb (Or.inl ⟨rfl, rfl⟩) a1, a2⟩, ⟨by omega, by omega, a5, a6, l5, a8⟩, ?_, by rw [e1]; omega, by rw [e1]; omega⟩
  unfold vx_lc at b1 ⊢
  rw [e1, e2]
  omega
theorem vx_c2_r {S : vx_S} {j : Nat} {m : Int} {F X A : rf_N} {e : Int → Int} {u u' L : Int} {i : Nat} (hC : vx_CT S) (hs : vx_sg X) (hb : S.2.2.2.1 m = some (X, e)) (hu : u' ≤ u + (vx_aa S m : Int)) (h : vx_c2 S A (rf_n j 3 m F .leaf) u L i) : vx_c2 S A X u' L i := fun _ => by
  obtain ⟨wa, wb, ⟨a1, a2⟩, ⟨a3, a4, a5, a6, a7, a8⟩, b1, b2, b3⟩ := h trivial
  obtain ⟨l1, l2, l5⟩ := vx_lh_body hC hs hb
  have l3 := vx_lh_call (j := j) (m := m) (F := F)
  have l4 := vx_rw_le S m
  rw [l3.1] at b1
  have e1 : vx_ls (vx_rw S) (m :: wb) = vx_rw S m + vx_ls (vx_rw S) wb := rfl
  have e2 : vx_ls (vx_aa S) (m :: wb) = vx_aa S m + vx_ls (vx_aa S) wb := rfl
  refine ⟨wa, m :: wb, ⟨a1, vx_wu_in (A := rf_n j 3 m F .leaf) hb (Or.inl ⟨rfl, rfl⟩) a2⟩, ⟨a3, a4, by omega, by omega, a7, l5⟩, ?_, b2, b3⟩
  unfold vx_lc at b1 ⊢
  rw [e1, e2]
  omega
/-- an ARG of both -/
theorem vx_c2_el {S : vx_S} {j j' : Nat} {k h k' h' : Int} {F F' A B : rf_N} {u L : Int} {i i' : Nat} (h0 : k ≠ 0) (h3 : k ≠ 3) (h0' : k' ≠ 0) (h3' : k' ≠ 3) (hA : A ∈ vx_el F) (hB : B ∈ vx_el F') (hi : i' ≤ i + 3) (h2 : vx_c2 S (rf_n j k h F .leaf) (rf_n j' k' h' F' .leaf) u L i) : vx_c2 S A B u L i' := fun _ => by
  obtain ⟨wa, wb, ⟨a1, a2⟩, ⟨a3, a4, a5, a6, a7, a8⟩, b1, b2, b3⟩ := h2 trivial
  obtain ⟨l1, l2⟩ := vx_lh_rig (j := j) (h := h) (F := F) h0 h3
  obtain ⟨l1', l2'⟩ := vx_lh_rig (j := j') (h := h') (F := F') h0' h3'
  obtain ⟨m1, m2⟩ := vx_lh_el hA
  obtain ⟨m1', m2'⟩ := vx_lh_el hB
  have z1 := vx_hz_el hA
  have z2 := vx_hz_el hB
  rw [vx_hz_lam h3] at a7
  rw [vx_hz_lam h3'] at a8
  rw [l1] at a3 b1 b2
  rw [l2] at a4 b3
  rw [l1'] at a5 b1
  rw [l2'] at a6
  refine ⟨wa, wb, ⟨vx_wu_sub (A := rf_n j k h F .leaf) (fun m hm => Or.inr (Or.inl ⟨h3, vx_mt_el.mpr ⟨A, hA, hm⟩⟩)) a1, vx_wu_sub (A := rf_n j' k' h' F' .leaf) (fun m hm => Or.inr (Or.inl ⟨h3', vx_mt_el.mpr ⟨B, hB, hm⟩⟩)) a2⟩, ⟨by omega, by omega, by omega, by omega, by omega, by omega⟩, by omega, by omega, by omega⟩
/-- one term of the walk at place i of its pile, u links used; bs: links of the other side -/
def vx_c1 (S : vx_S) (bs : Nat) (A : rf_N) (u L : Int) (i : Nat) : Prop := True → ∃ w, vx_wu S w A ∧ (vx_lh A ≤ 67 ∧ vx_hh A ≤ 26 ∧ vx_hz A ≤ 1024) ∧ (u + (vx_lh A : Int) ≤ 134 + (bs : Int) + (vx_lc S w : Int)) ∧ (L + (vx_lh A : Int) ≤ 1000 + 67 * (vx_ls (vx_rw S) w : Int)) ∧ (i + 3 * vx_hh A ≤ 82 + 78 * vx_ls (vx_rw S) w)
theorem vx_c1_bd {S : vx_S} {bs : Nat} {A : rf_N} {u L : Int} {i : Nat} {rk : Int → Nat} (hr : vx_rk S rk) (hW : vx_W S) (hC : vx_CT S) (hb : bs ≤ 385) (h : vx_c1 S bs A u L i) : u + (vx_lh A : Int) ≤ 904 ∧ L + (vx_lh A : Int) ≤ 1335 ∧ i + 3 * vx_hh A ≤ 472 ∧ vx_hz A ≤ 1024 := by
  obtain ⟨w, a1, ⟨_, _, a2⟩, b1, b2, b3⟩ := h trivial
  have c1 := vx_lc_bd hr hW hC a1
  have d1 : vx_lc S w ≤ 385 := by
    unfold vx_lc
    omega
  omega
theorem vx_c1_le {S T : vx_S} {bs : Nat} {A : rf_N} {u L : Int} {i : Nat} (hle : vx_le S T) (hW : vx_W S) (h : vx_c1 S bs A u L i) : vx_c1 T bs A u L i := fun _ => by
  obtain ⟨w, a1, a3, b1, b2, b3⟩ := h trivial
  have e1 := vx_lc_le hle hW a1
  refine ⟨w, vx_wu_le hle a1, a3, ?_, by rw [e1.2]; exact b2, by rw [e1.2]; exact b3⟩
  unfold vx_lc at b1 ⊢
  rw [e1.1, e1.2]
  exact b1
theorem vx_c1_lam {S : vx_S} {bs : Nat} {j : Nat} {x : Int} {F : rf_N} {u L : Int} {i : Nat} (h : vx_c1 S bs (rf_n j 0 x F .leaf) u L i) : vx_c1 S bs F (u + 1) (L + 1) i := fun _ => by
  obtain ⟨w, a1, ⟨a3, a4, a5⟩, b1, b2, b3⟩ := h trivial
  obtain ⟨l1, l2⟩ := vx_lh_lam (j := j) (x := x) (F := F)
  rw [l1] at a3 b1 b2
  rw [l2] at a4 b3
  rw [vx_hz_lam vx_03] at a5
  exact ⟨w, vx_wu_sub (A := rf_n j 0 x F .leaf) (fun m hm => Or.inr (Or.inl ⟨vx_03, hm⟩)) a1, ⟨by omega, by omega, by omega⟩, by omega, by omega, by omega⟩
theorem vx_c1_el {S : vx_S} {bs : Nat} {j : Nat} {k h : Int} {F A : rf_N} {u L : Int} {i i' : Nat} (h0 : k ≠ 0) (h3 : k ≠ 3) (hA : A ∈ vx_el F) (hi : i' ≤ i + 3) (h1 : vx_c1 S bs (rf_n j k h F .leaf) u L i) : vx_c1 S bs A u L i' := fun _ => by
  obtain ⟨w, a1, ⟨a3, a4, a5⟩, b1, b2, b3⟩ := h1 trivial
  obtain ⟨l1, l2⟩ := vx_lh_rig (j := j) (h := h) (F := F) h0 h3
  obtain ⟨m1, m2⟩ := vx_lh_el hA
  have z1 := vx_hz_el hA
  rw [l1] at a3 b1 b2
  rw [l2] at a4 b3
  rw [vx_hz_lam h3] at a5
  exact ⟨w, vx_wu_sub (A := rf_n j k h F .leaf) (fun m hm => Or.inr (Or.inl ⟨h3, vx_mt_el.mpr ⟨A, hA, hm⟩⟩)) a1, ⟨by omega, by omega, by omega⟩, by omega, by omega, by omega⟩
theorem vx_c1_in {S : vx_S} {bs : Nat} {j : Nat} {m : Int} {F X : rf_N} {e : Int → Int} {u u' L : Int} {i : Nat} (hC : vx_CT S) (hs : vx_sg X) (hb : S.2.2.2.1 m = some (X, e)) (hu : u' ≤ u + (vx_aa S m : Int)) (h : vx_c1 S bs (rf_n j 3 m F .leaf) u L i) : vx_c1 S bs X u' L i := fun _ => by
  obtain ⟨w, a1, ⟨a3, a4, a5⟩, b1, b2, b3⟩ := h trivial
  obtain ⟨l1, l2, l5⟩ := vx_lh_body hC hs hb
  have l3 := vx_lh_call (j := j) (m := m) (F := F)
  have l4 := vx_rw_le S m
  rw [l3.1] at b1 b2
  rw [l3.2] at b3
  have e1 : vx_ls (vx_rw S) (m :: w) = vx_rw S m + vx_ls (vx_rw S) w := rfl
  have e2 : vx_ls (vx_aa S) (m :: w) = vx_aa S m + vx_ls (vx_aa S) w := rfl
  refine ⟨m :: w, vx_wu_in (A := rf_n j 3 m F .leaf) hb (Or.inl ⟨rfl, rfl⟩) a1, ⟨by omega, by omega, l5⟩, ?_, by rw [e1]; omega, by rw [e1]; omega⟩
  unfold vx_lc at b1 ⊢
  rw [e1, e2]
  omega
/-- the walk begins at the right side of a pair -/
theorem vx_c1_0 {S : vx_S} {A B : rf_N} {u L : Int} {i : Nat} {rk : Int → Nat} (hr : vx_rk S rk) (hW : vx_W S) (hC : vx_CT S) (h : vx_c2 S A B u L i) : ∃ bs, bs ≤ 385 ∧ vx_c1 S bs B u L 0 := by
  obtain ⟨wa, wb, ⟨a1, a2⟩, ⟨a3, a4, a5, a6, a7, a8⟩, b1, b2, b3⟩ := h trivial
  have c1 := vx_lc_bd hr hW hC a1
  refine ⟨vx_lc S wa, by unfold vx_lc; omega, fun _ => ⟨wb, a2, ⟨a5, a6, a8⟩, by omega, by omega, by omega⟩⟩
/-- and at the left one -/
theorem vx_c1_1 {S : vx_S} {A B : rf_N} {u L : Int} {i : Nat} {rk : Int → Nat} (hr : vx_rk S rk) (hW : vx_W S) (hC : vx_CT S) (h : vx_c2 S A B u L i) : ∃ bs, bs ≤ 385 ∧ vx_c1 S bs A u L 0 := by
  obtain ⟨wa, wb, ⟨a1, a2⟩, ⟨a3, a4, a5, a6, a7, a8⟩, b1, b2, b3⟩ := h trivial
  have c1 := vx_lc_bd hr hW hC a1
  have c2 := vx_lc_bd hr hW hC a2
  refine ⟨vx_lc S wb, by unfold vx_lc; omega, fun _ => ⟨wa, a1, ⟨a3, a4, a7⟩, by omega, by omega, by omega⟩⟩
end
section
/-! ===== given unknowns are gone through: what comes of it ===== -/
theorem vx_ls_1 {n : Nat} {w : List Int} (h1 : w.Nodup) (h2 : ∀ x ∈ w, 0 ≤ x ∧ x < (n : Int)) : w.length ≤ n := by
  have a := vx_ls_sm (f := fun _ => 1) h1 h2
  have b : vx_ls (fun _ => 1) w = w.length := by
    clear h1 h2 a
    induction w with
    | nil => rfl
    | cons x l ih =>
      show 1 + vx_ls (fun _ => 1) l = l.length + 1
      omega
  have c : vx_sm (fun _ => 1) n = n := by
    clear a b h2
    induction n with
    | zero => rfl
    | succ n ih =>
      rw [vx_sm_s, ih]
  omega
theorem dv_nf_F {s u : sx_S} {AR : Nat → List Int} {W : List (Nat × Nat)} (n : Int) (h : cx_F W s u) (hw : cx_outb W 11 = true ∧ cx_outb W 12 = true ∧ cx_outb W 13 = true ∧ cx_outb W 14 = true ∧ cx_outb W 15 = true ∧ cx_outb W 16 = true) : dv_nf n AR AR s u := fun _ => ⟨fun _ => ⟨by rw [(h.same 11 hw.1).1]; exact Int.le_refl _, fun j _ => by
  rw [(h.same 12 hw.2.1).2, (h.same 13 hw.2.2.1).2, (h.same 14 hw.2.2.2.1).2, (h.same 15 hw.2.2.2.2.1).2, (h.same 16 hw.2.2.2.2.2).2]
  exact ⟨rfl, rfl, rfl, rfl, rfl⟩⟩, fun _ _ => rfl⟩
theorem c_dv_sl {tv tc : Int → rf_T} {tm : Int → Int → rf_T} {sL : Nat} {sx : Nat → Int32} (hsL : sL ≤ 3072) (d : Nat) (hd : 4 ≤ d) : ∀ (S : vx_S) (PR : Int → List (Int × Int)) (lt : Int → rf_T) (L : Int) (t : rf_T) (A : rf_N) (c : List (Int × Int)) (Cp : rf_N → Int → Prop) (a0 a1 : Int) (s : sx_S) (K : Int → sx_S → Prop), cx_I s → dv_M s S PR → vx_TS tv tc tm S PR → vx_CT S → dv_at s S.2.2.2.2 A a0 → dv_c s c (s.1 29 3) a1 → vx_sd tv tc tm S lt L t A c → Cp A (s.1 29 3) → (∀ (j : Nat) (m : Int) (F X : rf_N) (e : Int → Int) (u u' : Int), Cp (rf_n j 3 m F .leaf) u → vx_sg X → S.2.2.2.1 m = some (X, e) → u' ≤ u + (vx_aa S m : Int) → Cp X u') → (∀ A u, Cp A u → u ≤ 904) → (∀ u A' c', cx_I u → cx_F [(29, 33)] s u → dv_lf s u → (∀ k, k ≠ 7 → k ≠ 8 → u.1 33 k = s.1 33 k) → dv_at u S.2.2.2.2 A' (u.1 33 7) → dv_c u c' (u.1 29 3) (u.1 33 8) → vx_sd tv tc tm S lt L t A' c' → Cp A' (u.1 29 3) → (∀ th, vx_So S th → vx_val th S.2.2.2.2 A (dv_lk c) L = vx_val th S.2.2.2.2 A' (dv_lk c') L) → (∀ (j : Nat) (m : Int) (F : rf_N), A' = rf_n j 3 m F .leaf → S.2.2.2.1 m = none) → K 0 u) → sx_C sL sx d 5 [.inr (.inl 33), .inl a0, .inl a1] s K := by
  intro S PR lt L t A c Cp a0 a1 s K hI hM hT hC hA hc hsd hcp hstep hbd hK
  obtain ⟨⟨W, B1, Sc, rk, hrk⟩, TS⟩ := hT trivial
  obtain ⟨c0, _, _, _, c4, c5, _⟩ := hC trivial
  obtain ⟨⟨M1, M2, M3, _⟩, M4⟩ := hM trivial
  refine c_dv_set hsL d hd a0 a1 s K (fun n z k u => ∃ A' c' w, cx_I u ∧ cx_F [(29, 33)] s u ∧ dv_lf s u ∧ (∀ k, k ≠ 7 → k ≠ 8 → u.1 33 k = s.1 33 k) ∧ dv_at u S.2.2.2.2 A' z ∧ dv_c u c' (u.1 29 3) k ∧ vx_sd tv tc tm S lt L t A' c' ∧ Cp A' (u.1 29 3) ∧ (∀ th, vx_So S th → vx_val th S.2.2.2.2 A (dv_lk c) L = vx_val th S.2.2.2.2 A' (dv_lk c') L) ∧ vx_wu S w A' ∧ w.length + n = 32) ⟨A, c, [], hI, cx_F_refl _ _, dv_lf_refl s, fun _ _ _ => rfl, hA, hc, hsd, hcp, fun _ _ => rfl, vx_wu_nil S A, rfl⟩ ?_ ?_ ?_ ?_
  · rintro n z k u ⟨A', c', w, i1, i2, i3, i4, i5, i6, _⟩
    have h29 := i1.fld 29 3 (by decide) rfl
    have r := dv_ch_rng i6
    exact ⟨i1, dv_at_z i5, by omega, by omega⟩
  · rintro n z k u v w ⟨A', c', ww, i1, i2, i3, i4, i5, i6, i7⟩ hv hw
    have nf : ∀ F : Nat → Nat → Int, F 11 = u.1 11 → dv_nf (u.1 11 6) S.2.2.2.2 S.2.2.2.2 u (F, u.2) := fun F hF => fun _ => ⟨fun _ => ⟨by show u.1 11 6 ≤ F 11 6; rw [hF]; exact Int.le_refl _, fun j _ => ⟨rfl, rfl, rfl, rfl, rfl⟩⟩, fun _ _ => rfl⟩
    refine ⟨⟨A', c', ww, cx_I_uf rfl rfl (cx_I_uf rfl rfl i1 (by omega) (by omega)) (by omega) (by omega), cx_F_uf rfl (cx_F_uf rfl i2), fun _ => i3 trivial, fun k h7 h8 => ?_, dv_at_fr (Int.le_refl _) (nf _ rfl) i5, i6, i7⟩, ⟨A', c', ww, cx_I_uf rfl rfl (cx_I_uf rfl rfl i1 (by omega) (by omega)) (by omega) (by omega), cx_F_uf rfl (cx_F_uf rfl i2), fun _ => i3 trivial, fun k h7 h8 => ?_, dv_at_fr (Int.le_refl _) (nf _ rfl) i5, i6, i7⟩⟩
    · show sx_uf (sx_uf u.1 33 7 v) 33 8 w 33 k = _
      rw [sx_uf_if, if_neg (by omega), sx_uf_if, if_neg (by omega)]
      exact i4 k h7 h8
    · show sx_uf (sx_uf u.1 33 8 v) 33 7 w 33 k = _
      rw [sx_uf_if, if_neg (by omega), sx_uf_if, if_neg (by omega)]
      exact i4 k h7 h8
  · rintro n z k u ⟨A', c', w, i1, i2, i3, i4, i5, i6, i7, i8, i9, i10, i11⟩ hk
    obtain ⟨⟨b1, ⟨j, kk, m, F, rfl⟩, b3⟩, b4⟩ := i7 trivial
    have hd' := dv_at_hd i5
    obtain ⟨q1, q2, q3, q4, q5, q6, q7, q8, q9, q10⟩ := hd'
    obtain rfl : kk = 3 := by rw [← q3]; exact hk
    obtain ⟨q11, q12⟩ := q7 (by decide)
    obtain ⟨q13, q14, q15⟩ := q10 rfl
    obtain ⟨m0, m1⟩ := b1.1 m (Or.inl ⟨rfl, rfl⟩)
    have h6 : u.1 33 6 = S.1 := by rw [i4 6 (by decide) (by decide)]; exact M1
    have e34 : u.2.1 34 = s.2.1 34 := (i2.same 34 rfl).2
    rw [q4]
    refine ⟨⟨m0, by rw [h6]; exact m1⟩, fun hb => ?_⟩
    rw [e34] at hb ⊢
    obtain ⟨am, bm⟩ := M4 m m0 m1
    rcases bm with ⟨_, bm⟩ | ⟨B, bm1, bm2, bm3, bm4, bm5, bm6⟩
    · omega
    · obtain ⟨nd1, nd2⟩ := vx_wu_nd hrk W i10
      have wl := vx_ls_1 (n := S.1.toNat) nd1 (fun x hx => by have := nd2 x hx; omega)
      obtain ⟨n', rfl⟩ : ∃ n', n = n' + 1 := ⟨n - 1, by omega⟩
      refine ⟨n', rfl, fun G hG => ?_⟩
      have hl := vx_in_len b1
      have lF : (S.2.2.2.2 j).length = rf_len F := by rw [q13, dz_hs_len]
      have u904 := hbd _ _ i8
      have P1 := (bm3 trivial).2.1
      have hPl : ((PR m).length : Int) ≤ (vx_aa S m : Int) := by
        have n1 : ((PR m).map Prod.snd).length ≤ (S.2.2.1 m).toNat := vx_ls_1 bm6 (fun x hx => by
          obtain ⟨q, hq1, hq2⟩ := List.mem_map.mp hx
          have := bm4 q hq1
          rw [← hq2]
          omega)
        rw [List.length_map] at n1
        unfold vx_aa
        omega
      refine c_dv_ins hsL (d - 1) (by omega) z k (u.1 29 3) m F (PR m) c' u G i1 (dv_at_z i5) ⟨q4, m0, by omega⟩ q6 ?_ (fun q hq => by have := bm4 q hq; omega) (by omega) i6 (Int.le_refl _) (by omega) (fun k' v v1 v2 v3 v4 v5 => hG k' v ?_)
      · intro _
        rw [(i2.same 35 rfl).2, (i2.same 36 rfl).2, (i2.same 37 rfl).2]
        exact bm3 trivial
      · have hB : vx_sg B := by
          obtain ⟨a, b, cc, dd, ee, _⟩ := bm2
          exact ⟨a, b, cc, dd, ee⟩
        have hbs : S.2.2.2.1 m = some (B, dv_lk (PR m).reverse) := bm1
        obtain ⟨x1, x2, x3⟩ := dv_in_lk (c := c') (P := PR m) (hs := S.2.2.2.2 j) bm5 (fun q hq => by have := bm4 q hq; omega)
        refine ⟨B, dv_in (PR m) (dz_hs F) c', m :: w, v1, cx_F_step v2 rfl i2, dv_lf_t i3 v3, fun k h7 h8 => ?_, ?_, v5, ?_, ?_, fun th hS => ?_, vx_wu_in (A := rf_n j 3 m F .leaf) hbs (Or.inl ⟨rfl, rfl⟩) i10, by rw [List.length_cons]; omega⟩
        · rw [(v2.same 33 rfl).1]
          exact i4 k h7 h8
        · have f1 : dv_nf (s.1 11 6) S.2.2.2.2 S.2.2.2.2 s v := dv_nf_F _ (cx_F_step v2 rfl i2) (by decide)
          exact dv_at_fr (Int.le_refl _) f1 bm2
        · rw [← q13]
          exact vx_sd_body hT hbs q14 i7
        · exact hstep j m F B _ (u.1 29 3) (v.1 29 3) i8 hB hbs (by omega)
        · rw [i9 th hS, ← q13]
          exact vx_call_body hS hbs hl (fun z => by have := x3 z; omega) x1
  · rintro n z k u ⟨A', c', w, i1, i2, i3, i4, i5, i6, i7, i8, i9, i10, i11⟩ e7 e8 hn
    subst e7
    subst e8
    refine hK u A' c' i1 i2 i3 i4 i5 i6 i7 i8 i9 (fun j m F e => ?_)
    subst e
    have hd' := dv_at_hd i5
    obtain ⟨b1, _⟩ := (i7 trivial).1
    obtain ⟨m0, m1⟩ := b1.1 m (Or.inl ⟨rfl, rfl⟩)
    have hb := hn hd'.2.2.1
    rw [hd'.2.2.2.1, (i2.same 34 rfl).2] at hb
    obtain ⟨_, bm⟩ := M4 m m0 m1
    rcases bm with ⟨bm, _⟩ | ⟨B, bm1, bm2, _⟩
    · exact bm
    · have := dv_at_z bm2
      omega
end
section
/-! ===== a narrowing, of the state and of the memory ===== -/
theorem dv_kp_snd {k : Int} : ∀ {l : List Int} {i : Nat}, ((dv_kp k i l).map Prod.snd).Pairwise (· < ·) ∧ ∀ q ∈ dv_kp k i l, (i : Int) ≤ q.2
  | [], _ => ⟨List.Pairwise.nil, fun _ h => absurd h List.not_mem_nil⟩
  | x :: l, i => by
    obtain ⟨h1, h2⟩ := dv_kp_snd (k := k) (l := l) (i := i + 1)
    rw [dv_kp_c]
    by_cases b : dv_tb k i = true
    · rw [if_pos b, List.map_cons]
      refine ⟨List.pairwise_cons.mpr ⟨fun y hy => ?_, h1⟩, fun q hq => ?_⟩
      · obtain ⟨q, q1, q2⟩ := List.mem_map.mp hy
        have := h2 q q1
        show (i : Int) < y
        omega
      · rcases List.mem_cons.mp hq with rfl | hq
        · exact Int.le_refl _
        · have := h2 q hq
          omega
    · rw [if_neg b]
      exact ⟨h1, fun q hq => by have := h2 q hq; omega⟩
theorem dv_kp_fst {k : Int} : ∀ {l : List Int} {i : Nat}, ((dv_kp k i l).map Prod.fst).Sublist l
  | [], _ => List.Sublist.slnil
  | x :: l, i => by
    have ih := dv_kp_fst (k := k) (l := l) (i := i + 1)
    rw [dv_kp_c]
    by_cases b : dv_tb k i = true
    · rw [if_pos b, List.map_cons]
      exact List.Sublist.cons₂ _ ih
    · rw [if_neg b]
      exact List.Sublist.cons _ ih
theorem dv_kp_lt {k : Int} : ∀ {l : List Int} {i j : Nat}, j < l.length → dv_tb k (i + j) = false → (dv_kp k i l).length < l.length
  | [], _, _, h, _ => absurd h (Nat.not_lt_zero _)
  | x :: l, i, 0, _, hb => by
    have hb' : dv_tb k i = false := hb
    have := dv_kp_len (k := k) (l := l) (i := i + 1)
    rw [dv_kp_c, hb', List.length_cons]
    show (dv_kp k (i + 1) l).length < _
    omega
  | x :: l, i, j + 1, h, hb => by
    have ih := dv_kp_lt (k := k) (l := l) (i := i + 1) (j := j) (by rw [List.length_cons] at h; omega) (by rw [show i + 1 + j = i + (j + 1) by omega]; exact hb)
    rw [dv_kp_c, List.length_cons]
    by_cases b : dv_tb k i = true
    · rw [if_pos b, List.length_cons]
      omega
    · rw [if_neg b]
      omega
/-- the state after it -/
def dv_nT (S : vx_S) (x : Int) (N : Nat) (nn : Int) (Fn : rf_N) (P : List (Int × Int)) : vx_S := (S.1 + 1, nn, fun v => if v = S.1 then (P.length : Int) else S.2.2.1 v, fun v => if v = x then some (rf_n N 3 S.1 Fn .leaf, dv_lk P.reverse) else S.2.2.2.1 v, fun i => if i = N then P.map Prod.fst else S.2.2.2.2 i)
theorem dv_nr_T {tv tc : Int → rf_T} {tm : Int → Int → rf_T} {S : vx_S} {PR : Int → List (Int × Int)} {s t : sx_S} {j : Nat} {x k a0 : Int} {F Fn : rf_N} (hI : cx_I s) (hM : dv_M s S PR) (hT : vx_TS tv tc tm S PR) (hC : vx_CT S) (hA : dv_at s S.2.2.2.2 (rf_n j 3 x F .leaf) a0) (hin : vx_in S (rf_n j 3 x F .leaf)) (hty : ∀ (i : Nat) y, (S.2.2.2.2 j)[i]? = some y → tv y = tm x i) (hx : S.2.2.2.1 x = none) (h : dv_nr k x (dz_hs F) s t Fn) (hlt : ∃ i, i < (S.2.2.2.2 j).length ∧ dv_tb k i = false) (hF33 : cx_F [(11, 17), (33, 37)] s t) : ∃ (T : vx_S) (PR' : Int → List (Int × Int)) (tm' : Int → Int → rf_T) (eu : Int → Int) (zs ks : List Int) (jn : Nat), vx_nw S T x jn Fn eu zs ks ∧ dv_M t T PR' ∧ vx_TS tv tc tm' T PR' ∧ vx_CT T ∧ (∀ m i, m < S.1 → tm' m i = tm m i) ∧ dv_nf (s.1 11 6) S.2.2.2.2 T.2.2.2.2 s t ∧ ∀ i : Nat, i < (S.2.2.2.2 j).length → ((i : Int) ∈ ks ↔ dv_tb k i = true) := by
  obtain ⟨⟨M1, M2, M3, M5⟩, M4⟩ := hM trivial
  obtain ⟨⟨W, B1, Sc, rk, hrk⟩, TS⟩ := hT trivial
  obtain ⟨c0, _, _, _, c4, c5, _⟩ := hC trivial
  obtain ⟨x0, x1⟩ := hin.1 x (Or.inl ⟨rfl, rfl⟩)
  have hl := vx_in_len hin
  obtain ⟨_, _, _, _, _, _, _, _, _, q10⟩ := dv_at_hd hA
  obtain ⟨q13, q14, q15⟩ := q10 rfl
  rw [← q13] at h
  obtain ⟨⟨n1, n2⟩, n3, n4, n5, ⟨n6, n7⟩, n8, n9, n10, n11⟩ := h trivial
  have h0 := hI.fld 11 6 (by decide) rfl
  have P1 : ((dv_kp k 0 (S.2.2.2.2 j)).map Prod.fst).Nodup := List.Nodup.sublist dv_kp_fst q14
  have P2 : ((dv_kp k 0 (S.2.2.2.2 j)).map Prod.snd).Nodup := List.Pairwise.imp (fun q e => by omega) (dv_kp_snd (k := k) (l := S.2.2.2.2 j) (i := 0)).1
  have P3 : ∀ q ∈ dv_kp k 0 (S.2.2.2.2 j), (0 ≤ q.2 ∧ q.2 < S.2.2.1 x) ∧ (S.2.2.2.2 j)[q.2.toNat]? = some q.1 ∧ dv_tb k q.2.toNat = true := fun q hq => by
    obtain ⟨i, e1, e2, e3⟩ := dv_kp_mem.mp hq
    rw [Nat.zero_add] at e2 e3
    obtain ⟨hi, _⟩ := List.getElem?_eq_some_iff.mp e1
    have : q.2.toNat = i := by omega
    rw [this]
    exact ⟨by omega, e1, e3⟩
  have Plt : ((dv_kp k 0 (S.2.2.2.2 j)).length : Int) < S.2.2.1 x := by
    obtain ⟨i, i1, i2⟩ := hlt
    have := dv_kp_lt (k := k) (l := S.2.2.2.2 j) (i := 0) (j := i) i1 (by rw [Nat.zero_add]; exact i2)
    omega
  generalize hP : dv_kp k 0 (S.2.2.2.2 j) = P at *
  have Pr := dv_lk_rev P1
  have lkP : ∀ q ∈ P, dv_lk P.reverse q.1 = q.2 := fun q hq => dv_lk_mem Pr (List.mem_reverse.mpr hq)
  have ltN := dz_T_lt n3
  have bS : S.2.2.2.1 S.1 = none := by
    cases hb : S.2.2.2.1 S.1 with
    | none => rfl
    | some p =>
      obtain ⟨B, e⟩ := p
      have := (W S.1 B e hb).1
      omega
  have eub : ∀ z, dv_lk P.reverse z < S.2.2.1 x := fun z => by
    rcases dv_lk_in (l := P.reverse) (x := z) with q | ⟨q, _⟩
    · exact (P3 _ (List.mem_reverse.mp q)).1.2
    · have := (c5 x x0 x1).1
      omega
  have hmap : (P.map Prod.fst).map (dv_lk P.reverse) = P.map Prod.snd := by
    rw [List.map_map]
    exact List.map_congr_left (fun q hq => lkP q hq)
  have hnw : vx_nw S (dv_nT S x (s.1 11 6).toNat (t.1 11 6) Fn P) x (s.1 11 6).toNat Fn (dv_lk P.reverse) (P.map Prod.fst) (P.map Prod.snd) := by
    refine ⟨⟨rfl, by show S.2.1 ≤ t.1 11 6; omega, by omega, by show ((s.1 11 6).toNat : Int) < t.1 11 6; omega, fun i hi => ltN i (List.mem_cons_of_mem _ (List.mem_append_left _ hi))⟩, ⟨hx, bS, x0, x1⟩, fun v => ?_, fun v => rfl, fun i hi => ?_, ?_, hmap, P2, fun y hy => ?_, eub⟩
    · show (if v = S.1 then (P.length : Int) else S.2.2.1 v) = _
      rw [List.length_map]
    · show (if i = (s.1 11 6).toNat then P.map Prod.fst else S.2.2.2.2 i) = _
      rw [if_neg (by omega)]
    · show (if (s.1 11 6).toNat = (s.1 11 6).toNat then P.map Prod.fst else S.2.2.2.2 _) = _
      rw [if_pos rfl]
    · obtain ⟨q, q1, q2⟩ := List.mem_map.mp hy
      rw [← q2]
      exact (P3 q q1).1
  have hnf : dv_nf (s.1 11 6) S.2.2.2.2 (dv_nT S x (s.1 11 6).toNat (t.1 11 6) Fn P).2.2.2.2 s t := fun _ => ⟨n5, fun i hi => by
    show (if i = (s.1 11 6).toNat then P.map Prod.fst else S.2.2.2.2 i) = _
    rw [if_neg (by omega)]⟩
  have hle := vx_nw_le hnw
  have hbx : (dv_nT S x (s.1 11 6).toNat (t.1 11 6) Fn P).2.2.2.1 x = some (rf_n (s.1 11 6).toNat 3 S.1 Fn .leaf, dv_lk P.reverse) := if_pos rfl
  have rfN : rf_len Fn = P.length := by
    have := dz_hs_len Fn
    rw [n4, List.length_map] at this
    omega
  obtain ⟨N1, N2, N3, N4, N5⟩ := n3 trivial
  have hatn : dv_at t (dv_nT S x (s.1 11 6).toNat (t.1 11 6) Fn P).2.2.2.2 (rf_n (s.1 11 6).toNat 3 S.1 Fn .leaf) (s.1 11 6) := by
    obtain ⟨⟨p1, p2⟩, ⟨p3, p4⟩, p5, p6⟩ := N1
    obtain ⟨⟨r1, r2, r3⟩, r4, r5⟩ := N2
    refine ⟨(s.1 11 6).toNat, 3, S.1, Fn, rfl, ⟨by omega, p2⟩, ⟨p3, by rw [← M1]; exact p4⟩, p5, ⟨Or.inr (Or.inr ⟨rfl, ⟨r3 vx_30, by have := (c5 x x0 x1).2; omega⟩, ?_, ?_, ?_⟩), c0, trivial⟩⟩
    · show (if (s.1 11 6).toNat = (s.1 11 6).toNat then P.map Prod.fst else S.2.2.2.2 _) = _
      rw [if_pos rfl, n4]
    · show (if (s.1 11 6).toNat = (s.1 11 6).toNat then P.map Prod.fst else S.2.2.2.2 _).Nodup
      rw [if_pos rfl]
      exact P1
    · show ∀ v ∈ (if (s.1 11 6).toNat = (s.1 11 6).toNat then P.map Prod.fst else S.2.2.2.2 _), 0 ≤ v
      rw [if_pos rfl]
      intro v hv
      obtain ⟨q, q1, q2⟩ := List.mem_map.mp hv
      rw [← q2]
      exact q15 _ (List.mem_of_getElem? (P3 q q1).2.1)
  obtain ⟨PR', hPR⟩ : ∃ f : Int → List (Int × Int), ∀ u, f u = if u = x then P else PR u := ⟨fun u => if u = x then P else PR u, fun _ => rfl⟩
  obtain ⟨tm', htm⟩ : ∃ f : Int → Int → rf_T, ∀ u i, f u i = if u = S.1 then tm x ((P.map Prod.snd).getD i.toNat 0) else tm u i := ⟨fun u i => if u = S.1 then tm x ((P.map Prod.snd).getD i.toNat 0) else tm u i, fun _ _ => rfl⟩
  refine ⟨dv_nT S x (s.1 11 6).toNat (t.1 11 6) Fn P, PR', tm', dv_lk P.reverse, P.map Prod.fst, P.map Prod.snd, (s.1 11 6).toNat, hnw, fun _ => ⟨⟨?_, rfl, ?_, fun u u0 u1 => ?_⟩, fun u u0 u1 => ?_⟩, fun _ => ⟨⟨vx_nw_W hnw W, vx_nw_B1 hnw B1, vx_nw_Sc hnw W Sc, _, vx_nw_rk hnw W hrk⟩, fun u B e hb => ?_⟩, vx_CT_nw hnw (by rw [List.length_map]; exact Plt) (by show t.1 11 6 = _; rw [List.length_map]; omega) hC, fun m i hm => by rw [htm, if_neg (by omega)], hnf, fun i hi => ?_⟩
  · show t.1 33 6 = S.1 + 1
    omega
  · show S.1 + 1 ≤ 32
    omega
  · have u0' : S.1 + 1 ≤ (u : Int) := u0
    rw [(n8 u (by omega)).1]
    exact M5 u (by omega) u1
  · have u1' : u < S.1 + 1 := u1
    show (if u = S.1 then (P.length : Int) else S.2.2.1 u) ≤ 4 ∧ _
    by_cases e1 : u = S.1
    · refine ⟨by rw [if_pos e1]; have := (c5 x x0 x1).2; omega, Or.inl ⟨?_, ?_⟩⟩
      · show (if u = x then _ else S.2.2.2.1 u) = none
        rw [if_neg (by omega), e1]
        exact bS
      · rw [(n8 u.toNat (by omega)).1]
        exact M5 u.toNat (by omega) (by omega)
    · rw [if_neg e1]
      obtain ⟨au, bu⟩ := M4 u u0 (by omega)
      refine ⟨au, ?_⟩
      by_cases e2 : u = x
      · refine Or.inr ⟨rf_n (s.1 11 6).toNat 3 S.1 Fn .leaf, ?_, ?_, ?_, ?_, ?_, ?_⟩
        · show (if u = x then _ else S.2.2.2.1 u) = some (_, dv_lk (PR' u).reverse)
          rw [if_pos e2, hPR, if_pos e2]
        · rw [e2, n6]
          exact hatn
        · rw [hPR, if_pos e2, e2]
          exact n7
        · intro q hq
          rw [hPR, if_pos e2] at hq
          show 0 ≤ q.2 ∧ q.2 < (if u = S.1 then (P.length : Int) else S.2.2.1 u)
          rw [if_neg e1, e2]
          exact (P3 q hq).1
        · rw [hPR, if_pos e2]
          exact P1
        · rw [hPR, if_pos e2]
          exact P2
      · have hne : u.toNat ≠ x.toNat := by omega
        rcases bu with ⟨b1, b2⟩ | ⟨B, b1, b2, b3, b4, b5, b6⟩
        · refine Or.inl ⟨?_, by rw [(n8 u.toNat hne).1]; exact b2⟩
          show (if u = x then _ else S.2.2.2.1 u) = none
          rw [if_neg e2]
          exact b1
        · refine Or.inr ⟨B, ?_, ?_, ?_, ?_, ?_, ?_⟩
          · show (if u = x then _ else S.2.2.2.1 u) = some (_, dv_lk (PR' u).reverse)
            rw [if_neg e2, hPR, if_neg e2]
            exact b1
          · rw [(n8 u.toNat hne).1]
            exact dv_at_fr (Int.le_refl _) hnf b2
          · rw [hPR, if_neg e2]
            intro _
            obtain ⟨r1, r2, r3⟩ := b3 trivial
            refine ⟨by rw [(n8 u.toNat hne).2]; exact r1, r2, fun i q hq => ?_⟩
            obtain ⟨r4, r5⟩ := r3 i q hq
            obtain ⟨hi, _⟩ := List.getElem?_eq_some_iff.mp hq
            obtain ⟨r6, r7⟩ := n9 (u * 4 + (i : Int)).toNat (by omega)
            exact ⟨r6.trans r4, r7.trans r5⟩
          · intro q hq
            rw [hPR, if_neg e2] at hq
            show 0 ≤ q.2 ∧ q.2 < (if u = S.1 then (P.length : Int) else S.2.2.1 u)
            rw [if_neg e1]
            exact b4 q hq
          · rw [hPR, if_neg e2]
            exact b5
          · rw [hPR, if_neg e2]
            exact b6
  · have hb' : (if u = x then some (rf_n (s.1 11 6).toNat 3 S.1 Fn .leaf, dv_lk P.reverse) else S.2.2.2.1 u) = some (B, e) := hb
    by_cases e2 : u = x
    · rw [if_pos e2] at hb'
      rw [hPR, if_pos e2]
      obtain ⟨rfl, rfl⟩ := Prod.mk.inj (Option.some.inj hb')
      refine ⟨rfl, ⟨⟨_, _, _, _, rfl⟩, Or.inr (Or.inr (Or.inr ⟨rfl, rfl, fun i y hy => ?_⟩))⟩, fun q hq => ?_, P1, P2, ⟨Or.inr (Or.inr rfl), trivial⟩⟩
      · have hy' : (if (s.1 11 6).toNat = (s.1 11 6).toNat then P.map Prod.fst else S.2.2.2.2 (s.1 11 6).toNat)[i]? = some y := hy
        rw [if_pos rfl, List.getElem?_map] at hy'
        cases hp : P[i]? with
        | none =>
          rw [hp] at hy'
          cases hy'
        | some q =>
          rw [hp] at hy'
          have e3 : q.1 = y := Option.some.inj hy'
          show tv y = tm' S.1 (i : Int)
          rw [htm, if_pos rfl, List.getD_eq_getElem?_getD, Int.toNat_natCast, List.getElem?_map, hp]
          show tv y = tm x q.2
          obtain ⟨p1, p2, _⟩ := P3 q (List.mem_of_getElem? hp)
          have p3 := hty q.2.toNat q.1 p2
          rw [Int.toNat_of_nonneg p1.1] at p3
          rw [← e3]
          exact p3
      · show tv q.1 = tm' u q.2 ∧ 0 ≤ q.2 ∧ q.2 < (if u = S.1 then (P.length : Int) else S.2.2.1 u) ∧ 0 ≤ q.1
        obtain ⟨p1, p2, _⟩ := P3 q hq
        have p3 := hty q.2.toNat q.1 p2
        rw [Int.toNat_of_nonneg p1.1] at p3
        rw [htm, if_neg (by omega), if_neg (by omega), e2]
        exact ⟨p3, p1.1, p1.2, q15 _ (List.mem_of_getElem? p2)⟩
    · rw [if_neg e2] at hb'
      rw [hPR, if_neg e2]
      obtain ⟨t1, ⟨t2, t3⟩, t4, t5, t6, t7⟩ := TS u B e hb'
      obtain ⟨w1, w2, _⟩ := W u B e hb'
      refine ⟨t1, ⟨t2, (vx_ty_cg (fun m i hm => by rw [htm, if_neg (by have := (w2.1 m hm).2; omega)]) (fun i hi => hle.2.2.2 i (w2.2.1 i hi))).1 _ t3⟩, fun q hq => ?_, t5, t6, t7⟩
      show tv q.1 = tm' u q.2 ∧ 0 ≤ q.2 ∧ q.2 < (if u = S.1 then (P.length : Int) else S.2.2.1 u) ∧ 0 ≤ q.1
      rw [htm, if_neg (by omega), if_neg (by omega)]
      exact t4 q hq
  · constructor
    · intro hm
      obtain ⟨q, q1, q2⟩ := List.mem_map.mp hm
      obtain ⟨p1, p2, p3⟩ := P3 q q1
      rw [q2] at p3
      rw [Int.toNat_natCast] at p3
      exact p3
    · intro hb
      rw [← hP]
      exact List.mem_map.mpr ⟨((S.2.2.2.2 j)[i], (i : Int)), dv_kp_mem.mpr ⟨i, List.getElem?_eq_getElem hi, by rw [Nat.zero_add], by rw [Nat.zero_add]; exact hb⟩, rfl⟩
end
section
/-! ===== more is known ===== -/
def vx_isc (B : rf_N) : Prop := ∃ (j : Nat) (m : Int) (F : rf_N), B = rf_n j 3 m F .leaf
/-- what is new is calls, and X alone -/
def vx_l2 (X : rf_N → Prop) (S T : vx_S) : Prop := vx_le S T ∧ ∀ u B e, T.2.2.2.1 u = some (B, e) → S.2.2.2.1 u = some (B, e) ∨ vx_isc B ∨ X B
theorem vx_l2_refl {X : rf_N → Prop} (S : vx_S) : vx_l2 X S S := ⟨vx_le_refl S, fun _ _ _ h => Or.inl h⟩
theorem vx_l2_trans {X : rf_N → Prop} {S T R : vx_S} (h1 : vx_l2 X S T) (h2 : vx_l2 X T R) : vx_l2 X S R := ⟨vx_le_trans h1.1 h2.1, fun u B e h => by
  rcases h2.2 u B e h with h | h | h
  · exact h1.2 u B e h
  · exact Or.inr (Or.inl h)
  · exact Or.inr (Or.inr h)⟩
theorem vx_l2_im {X Y : rf_N → Prop} {S T : vx_S} (hXY : ∀ B, X B → Y B) (h : vx_l2 X S T) : vx_l2 Y S T := ⟨h.1, fun u B e hb => by
  rcases h.2 u B e hb with q | q | q
  · exact Or.inl q
  · exact Or.inr (Or.inl q)
  · exact Or.inr (Or.inr (hXY B q))⟩
theorem vx_nw_l2 {S T : vx_S} {x : Int} {j : Nat} {F : rf_N} {eu : Int → Int} {zs ks : List Int} (hn : vx_nw S T x j F eu zs ks) : vx_l2 (fun _ => False) S T := ⟨vx_nw_le hn, fun u B e h => by
  obtain ⟨_, _, _, d, _⟩ := hn
  rw [d] at h
  by_cases q : u = x
  · rw [if_pos q] at h
    exact Or.inr (Or.inl ⟨_, _, _, (Prod.mk.inj (Option.some.inj h)).1.symm⟩)
  · rw [if_neg q] at h
    exact Or.inl h⟩
theorem vx_gv_l2 {S T : vx_S} {u : Int} {B : rf_N} {eu : Int → Int} (hg : vx_gv S T u B eu) : vx_l2 (fun C => C = B) S T := ⟨vx_gv_le hg, fun v C e h => by
  obtain ⟨_, _, c, _⟩ := hg
  rw [c] at h
  by_cases q : v = u
  · rw [if_pos q] at h
    exact Or.inr (Or.inr (Prod.mk.inj (Option.some.inj h)).1.symm)
  · rw [if_neg q] at h
    exact Or.inl h⟩
/-! ===== what holds between the steps of solving; meet ===== -/
def dv_es (tv tc : Int → rf_T) (tm : Int → Int → rf_T) (S : vx_S) : List dv_E → Prop
  | [] => True
  | p :: r => (vx_2 tv tc tm S p.1.1 p.1.2 p.2.1.1 p.2.1.2 p.2.2.1 ∧ vx_c2 S p.1.1 p.2.1.1 p.2.2.2 p.2.2.1 r.length) ∧ dv_es tv tc tm S r
def dv_pe (p : dv_E) : vx_P := ((p.1.1, dv_lk p.1.2), (p.2.1.1, dv_lk p.2.1.2), p.2.2.1)
/-- the memory, the state, what is still to be done: ps, then the pile r -/
def dv_G (tv tc : Int → rf_T) (n0 : Int) (Qs : (Int → rf_N) → Prop) (s : sx_S) (S : vx_S) (PR : Int → List (Int × Int)) (tm : Int → Int → rf_T) (ps : List vx_P) (r : List dv_E) : Prop := True → cx_I s ∧ dv_M s S PR ∧ vx_TS tv tc tm S PR ∧ vx_CT S ∧ (dv_ps s S.2.2.2.2 (s.1 29 3) r ∧ s.1 39 6 = (r.length : Int)) ∧ dv_es tv tc tm S r ∧ vx_J S n0 Qs (ps ++ r.map dv_pe)
theorem vx_2_le {tv tc : Int → rf_T} {tm tm' : Int → Int → rf_T} {S T : vx_S} {A B : rf_N} {c d : List (Int × Int)} {L : Int} (hle : vx_le S T) (hU : ∀ v i, v < S.1 → vx_U T v i → vx_U S v i) (hm : ∀ m i, m < S.1 → tm' m i = tm m i) (h : vx_2 tv tc tm S A c B d L) : vx_2 tv tc tm' T A c B d L := fun _ => by
  obtain ⟨lt, t, h1, h2⟩ := h trivial
  exact ⟨lt, t, vx_sd_le hle hU hm h1, vx_sd_le hle hU hm h2⟩
theorem dv_es_le {tv tc : Int → rf_T} {tm tm' : Int → Int → rf_T} {S T : vx_S} (hW : vx_W S) (hle : vx_le S T) (hU : ∀ v i, v < S.1 → vx_U T v i → vx_U S v i) (hm : ∀ m i, m < S.1 → tm' m i = tm m i) : ∀ {r : List dv_E}, dv_es tv tc tm S r → dv_es tv tc tm' T r
  | [], _ => trivial
  | p :: r, ⟨⟨h1, h2⟩, h3⟩ => ⟨⟨vx_2_le hle hU hm h1, vx_c2_le hle hW h2⟩, dv_es_le hW hle hU hm h3⟩
theorem dv_es_in {tv tc : Int → rf_T} {tm : Int → Int → rf_T} {S : vx_S} : ∀ {r : List dv_E}, dv_es tv tc tm S r → ∀ q ∈ r.map dv_pe, vx_in S q.1.1 ∧ vx_in S q.2.1.1
  | [], _, q, hq => absurd hq List.not_mem_nil
  | p :: r, ⟨⟨h1, _⟩, h3⟩, q, hq => by
    rw [List.map_cons] at hq
    rcases List.mem_cons.mp hq with rfl | hq
    · obtain ⟨lt, t, g1, g2⟩ := h1 trivial
      exact ⟨(g1 trivial).1.1, (g2 trivial).1.1⟩
    · exact dv_es_in h3 q hq
/-- only what the solver's own cells hold has changed -/
theorem dv_G_F {tv tc : Int → rf_T} {n0 : Int} {Qs : (Int → rf_N) → Prop} {s u : sx_S} {S : vx_S} {PR : Int → List (Int × Int)} {tm : Int → Int → rf_T} {ps ps' : List vx_P} {r : List dv_E} (h : dv_G tv tc n0 Qs s S PR tm ps r) (hI : cx_I u) (hF : cx_F [(29, 33), (38, 38), (46, 54)] s u) (h33 : u.1 33 6 = s.1 33 6) (hl : dv_lf s u) (hJ : vx_J S n0 Qs (ps' ++ r.map dv_pe)) : dv_G tv tc n0 Qs u S PR tm ps' r := fun _ => by
  obtain ⟨g1, g2, g3, g4, ⟨g5, g6⟩, g7, _⟩ := h trivial
  have nf : dv_nf (s.1 11 6) S.2.2.2.2 S.2.2.2.2 s u := dv_nf_F _ hF (by decide)
  refine ⟨hI, dv_M_fr (Int.le_refl _) (by rw [(hF.same 11 rfl).1]) nf h33 (hF.same 34 rfl).2 (hF.same 35 rfl).2 (hF.same 36 rfl).2 (hF.same 37 rfl).2 g2, g3, g4, ⟨dv_ps_hi (hl trivial).1 (dv_ps_fr (Int.le_refl _) nf (hl trivial).2 (fun j _ => ?_) g5), by rw [(hF.same 39 rfl).1]; exact g6⟩, g7, hJ⟩
  rw [(hF.same 40 rfl).2, (hF.same 41 rfl).2, (hF.same 42 rfl).2, (hF.same 43 rfl).2, (hF.same 44 rfl).2, (hF.same 45 rfl).2]
  exact ⟨rfl, rfl, rfl, rfl, rfl, rfl⟩
/-- a narrowing in it -/
theorem dv_G_nw {tv tc : Int → rf_T} {n0 : Int} {Qs : (Int → rf_N) → Prop} {s t : sx_S} {S : vx_S} {PR : Int → List (Int × Int)} {tm : Int → Int → rf_T} {ps ps' : List vx_P} {r : List dv_E} {j : Nat} {x k a0 : Int} {F Fn : rf_N} (h : dv_G tv tc n0 Qs s S PR tm ps r) (hA : dv_at s S.2.2.2.2 (rf_n j 3 x F .leaf) a0) (hin : vx_in S (rf_n j 3 x F .leaf)) (hty : ∀ (i : Nat) y, (S.2.2.2.2 j)[i]? = some y → tv y = tm x i) (hx : S.2.2.2.1 x = none) (hn : dv_nr k x (dz_hs F) s t Fn) (hlt : ∃ i, i < (S.2.2.2.2 j).length ∧ dv_tb k i = false) (hIt : cx_I t) (hF : cx_F [(11, 17), (33, 37)] s t) (hJ : ∀ T eu zs ks jn, vx_nw S T x jn Fn eu zs ks → (∀ i : Nat, i < (S.2.2.2.2 j).length → ((i : Int) ∈ ks ↔ dv_tb k i = true)) → vx_J T n0 Qs (ps' ++ r.map dv_pe)) : ∃ T PR' tm' eu zs ks jn, vx_nw S T x jn Fn eu zs ks ∧ (∀ i : Nat, i < (S.2.2.2.2 j).length → ((i : Int) ∈ ks ↔ dv_tb k i = true)) ∧ dv_nf (s.1 11 6) S.2.2.2.2 T.2.2.2.2 s t ∧ (∀ m i, m < S.1 → tm' m i = tm m i) ∧ (∀ v i, v < S.1 → vx_U T v i → vx_U S v i) ∧ dv_G tv tc n0 Qs t T PR' tm' ps' r := by
  obtain ⟨g1, g2, g3, g4, ⟨g5, g6⟩, g7, _⟩ := h trivial
  obtain ⟨⟨W, _⟩, _⟩ := g3 trivial
  obtain ⟨T, PR', tm', eu, zs, ks, jn, n1, n2, n3, n4, n5, n6, n7⟩ := dv_nr_T g1 g2 g3 g4 hA hin hty hx hn hlt hF
  have hle := vx_nw_le n1
  have hU : ∀ v i, v < S.1 → vx_U T v i → vx_U S v i := fun v i hv hu => vx_nw_U n1 W v i (by omega) hu
  refine ⟨T, PR', tm', eu, zs, ks, jn, n1, n7, n6, n5, hU, fun _ => ⟨hIt, n2, n3, n4, ⟨?_, by rw [(hF.same 39 rfl).1]; exact g6⟩, dv_es_le W hle hU n5 g7, hJ T eu zs ks jn n1 n7⟩⟩
  rw [(hF.same 29 rfl).1]
  refine dv_ps_fr (Int.le_refl _) n6 (fun i _ => ?_) (fun i _ => ?_) g5
  · rw [(hF.same 30 rfl).2, (hF.same 31 rfl).2, (hF.same 32 rfl).2]
    exact ⟨rfl, rfl, rfl⟩
  · rw [(hF.same 40 rfl).2, (hF.same 41 rfl).2, (hF.same 42 rfl).2, (hF.same 43 rfl).2, (hF.same 44 rfl).2, (hF.same 45 rfl).2]
    exact ⟨rfl, rfl, rfl, rfl, rfl, rfl⟩
theorem vx_ty_call {tv tc : Int → rf_T} {tm : Int → Int → rf_T} {AR : Nat → List Int} {j : Nat} {x : Int} {F : rf_N} {t : rf_T} (h : (vx_ty tv tc tm AR (rf_n j 3 x F .leaf)).1 t) : ∀ (i : Nat) y, (AR j)[i]? = some y → tv y = tm x i := by
  rcases h with ⟨q, _⟩ | ⟨q, _⟩ | ⟨q, _⟩ | ⟨_, _, q⟩
  · exact absurd q vx_30
  · have q' : (3 : Int) = 1 := q
    omega
  · have q' : (3 : Int) = 2 := q
    omega
  · exact q
end
section
/-! ===== the walk: what holds between its steps ===== -/
def dv_kf (k : dv_K) : rf_N × (Int → Int) := (k.1.1, dv_lk k.1.2)
def dv_sn (s : sx_S) (m : Int) : Prop := (0 ≤ m ∧ m < 32) ∧ s.2.1 53 m.toNat ≠ 31
def dv_se (s : sx_S) (m i : Int) : Prop := (0 ≤ m ∧ 0 ≤ i) ∧ dv_tb (s.2.1 53 m.toNat) i.toNat = true
def dv_ks (tv tc : Int → rf_T) (tm : Int → Int → rf_T) (S : vx_S) (bs : Nat) (L : Int) : List dv_K → Prop
  | [] => True
  | k :: r => ((∃ lt t, vx_sd tv tc tm S lt k.2.1 t k.1.1 k.1.2) ∧ L ≤ k.2.1 ∧ vx_c1 S bs k.1.1 k.2.2 k.2.1 r.length) ∧ dv_ks tv tc tm S bs L r
theorem dv_ks_le {tv tc : Int → rf_T} {tm tm' : Int → Int → rf_T} {S T : vx_S} {bs : Nat} {L : Int} (hW : vx_W S) (hle : vx_le S T) (hU : ∀ v i, v < S.1 → vx_U T v i → vx_U S v i) (hm : ∀ m i, m < S.1 → tm' m i = tm m i) : ∀ {r : List dv_K}, dv_ks tv tc tm S bs L r → dv_ks tv tc tm' T bs L r
  | [], _ => trivial
  | p :: r, ⟨⟨⟨lt, t, h1⟩, h2, h3⟩, h4⟩ => ⟨⟨⟨lt, t, vx_sd_le hle hU hm h1⟩, h2, vx_c1_le hle hW h3⟩, dv_ks_le hW hle hU hm h4⟩
theorem dv_ks_in {tv tc : Int → rf_T} {tm : Int → Int → rf_T} {S : vx_S} {bs : Nat} {L : Int} : ∀ {r : List dv_K}, dv_ks tv tc tm S bs L r → ∀ q ∈ r.map dv_kf, vx_in S q.1
  | [], _, q, hq => absurd hq List.not_mem_nil
  | p :: r, ⟨⟨⟨lt, t, h1⟩, _⟩, h3⟩, q, hq => by
    rw [List.map_cons] at hq
    rcases List.mem_cons.mp hq with rfl | hq
    · exact (h1 trivial).1.1
    · exact dv_ks_in h3 q hq
/-- cur: what is looked at just now; ws: the pile -/
def dv_WK (tv tc : Int → rf_T) (n0 : Int) (Qs : (Int → rf_N) → Prop) (p : vx_P) (root : rf_N × (Int → Int)) (r : List dv_E) (sf L : Int) (AL : Int → Prop) (bs : Nat) (mk0 : Int) (cL cR : List (Int × Int)) (u : sx_S) (S : vx_S) (PR : Int → List (Int × Int)) (tm : Int → Int → rf_T) (cur : List (rf_N × (Int → Int))) (ws : List dv_K) : Prop := True → dv_G tv tc n0 Qs u S PR tm [p] r ∧ (dv_ws u S.2.2.2.2 (u.1 29 3) ws ∧ u.1 46 6 = (ws.length : Int)) ∧ (u.1 38 7 = sf ∧ u.1 38 12 = L ∧ 0 ≤ L ∧ ∀ v, dv_al u v ↔ AL v) ∧ (∀ m : Nat, m < 32 → 0 ≤ u.2.1 53 m ∧ u.2.1 53 m < 32) ∧ (vx_H S sf AL (dv_sn u) (dv_se u) (cur ++ ws.map dv_kf) root ∧ vx_Kn S AL p root (cur ++ ws.map dv_kf)) ∧ dv_ks tv tc tm S bs L ws ∧ (S.2.2.2.1 sf = none ∧ 0 ≤ sf ∧ (vx_in S root.1 ∧ vx_in S p.1.1 ∧ vx_in S p.2.1.1) ∧ ∀ q ∈ cur, vx_in S q.1) ∧ (bs ≤ 385 ∧ mk0 ≤ u.1 29 3 ∧ (∀ k ∈ ws, mk0 ≤ k.2.2) ∧ dv_ps u S.2.2.2.2 mk0 r ∧ vx_2 tv tc tm S p.1.1 cL p.2.1.1 cR L)
/-- what a part of the walk leaves as it was -/
def dv_WF (mk0 : Int) (s u : sx_S) (S T : vx_S) : Prop := True → cx_F [(11, 17), (29, 37), (46, 54)] s u ∧ dv_lm mk0 s u ∧ vx_l2 (fun _ => False) S T ∧ dv_nf (s.1 11 6) S.2.2.2.2 T.2.2.2.2 s u ∧ (s.1 11 6 = S.2.1 ∧ u.1 11 6 = T.2.1) ∧ u.2.1 54 = s.2.1 54
theorem dv_WF_t {mk0 : Int} {s t u : sx_S} {S T R : vx_S} (h1 : dv_WF mk0 s t S T) (h2 : dv_WF mk0 t u T R) : dv_WF mk0 s u S R := fun _ => by
  obtain ⟨a1, a2, a3, a4, a5, a6⟩ := h1 trivial
  obtain ⟨b1, b2, b3, b4, b5, b6⟩ := h2 trivial
  refine ⟨cx_F_step b1 rfl a1, fun _ => ⟨(b2 trivial).1, fun j hj => ?_⟩, vx_l2_trans a3 b3, fun _ => ⟨dz_fr_t (b4 trivial).1 (a4 trivial).1 (fun j hj => ?_), fun j hj => ?_⟩, ⟨a5.1, b5.2⟩, b6.trans a6⟩
  · obtain ⟨c1, c2, c3⟩ := (a2 trivial).2 j hj
    obtain ⟨d1, d2, d3⟩ := (b2 trivial).2 j hj
    exact ⟨d1.trans c1, d2.trans c2, d3.trans c3⟩
  · have hj' : (j : Int) < s.1 11 6 := hj
    have := a3.1.1.2
    show (j : Int) < t.1 11 6
    omega
  · have := a3.1.1.2
    exact ((b4 trivial).2 j (by omega)).trans ((a4 trivial).2 j hj)
/-- how long it may still be -/
def dv_cd (k : Int) : Nat := (if dv_tb k 0 then 1 else 0) + (if dv_tb k 1 then 1 else 0) + (if dv_tb k 2 then 1 else 0) + (if dv_tb k 3 then 1 else 0) + (if dv_tb k 4 then 1 else 0)
theorem dv_cd_d : ∀ k l : Fin 32, dv_and (k.val : Int) (l.val : Int) ≠ (k.val : Int) → dv_cd (dv_and (k.val : Int) (l.val : Int)) < dv_cd (k.val : Int) := by decide
theorem dv_cd_lt {k l : Int} (h0 : 0 ≤ k) (h1 : k < 32) (g0 : 0 ≤ l) (g1 : l < 32) (h : dv_and k l ≠ k) : dv_cd (dv_and k l) < dv_cd k := by
  have := dv_cd_d ⟨k.toNat, by omega⟩ ⟨l.toNat, by omega⟩
  have e : ((k.toNat : Nat) : Int) = k := Int.toNat_of_nonneg h0
  have e' : ((l.toNat : Nat) : Int) = l := Int.toNat_of_nonneg g0
  dsimp only at this
  rw [e, e'] at this
  exact this h
def dv_cs (s : sx_S) : Nat := vx_sm (fun m => dv_cd (s.2.1 53 m.toNat)) 32
def dv_hz : List dv_K → Nat
  | [] => 0
  | k :: r => vx_hz k.1.1 + dv_hz r
def dv_ms (s : sx_S) (ws : List dv_K) : Nat := dv_hz ws + 1025 * dv_cs s
/-- there is no solution -/
def vx_NO (n0 : Int) (Qs : (Int → rf_N) → Prop) (S : vx_S) : Prop := ∀ th0, vx_gd th0 → (∀ u, 0 ≤ u → u < n0 → vx_sc (th0 u) (S.2.2.1 u)) → ¬ Qs th0
theorem vx_NO_le {n0 : Int} {Qs : (Int → rf_N) → Prop} {S T : vx_S} (hle : vx_le S T) (hn : n0 ≤ S.1) (h : vx_NO n0 Qs T) : vx_NO n0 Qs S := fun th0 g s => h th0 g (fun u u0 hu => by rw [hle.2.1 u u0 (by omega)]; exact s u u0 hu)
/-- an open call that has no ARG too many -/
theorem vx_O_open {S : vx_S} {sf : Int} {AL : Int → Prop} {j : Nat} {m : Int} {F : rf_N} {e : Int → Int} (hm : S.2.2.2.1 m = none) (hs : m ≠ sf) (ha : ∀ y ∈ S.2.2.2.2 j, AL (e y)) : ∀ U G, vx_ex S U → vx_eg S sf G → vx_O U G S.2.2.2.2 AL (rf_n j 3 m F .leaf, e) := fun U G _ hg => ⟨vx_OK_call.mpr (fun i z h1 _ => ha z (List.mem_of_getElem? h1)), fun x hx => by
  rw [vx_mt_call hx]
  exact hg.1 m hm hs⟩
/-- after a narrowing the call is allowed, and what was found stays -/
theorem vx_H_nw {S T : vx_S} {x sf : Int} {AL : Int → Prop} {sn : Int → Prop} {se : Int → Int → Prop} {j jn : Nat} {F Fn : rf_N} {e eu : Int → Int} {zs ks : List Int} {pend : List (rf_N × (Int → Int))} {root : rf_N × (Int → Int)} (hW : vx_W S) (hn : vx_nw S T x jn Fn eu zs ks) (hs : x ≠ sf) (hsf : sf < S.1) (hp : ∀ c ∈ root :: (rf_n j 3 x F .leaf, e) :: pend, vx_in S c.1) (hk : ∀ (i : Nat) y, (S.2.2.2.2 j)[i]? = some y → (i : Int) ∈ ks → AL (e y)) (h : vx_H S sf AL sn se ((rf_n j 3 x F .leaf, e) :: pend) root) : vx_H T sf AL sn se pend root := by
  have hle := vx_nw_le hn
  have n := hn
  obtain ⟨⟨a1, a2, a3, a4, a5⟩, ⟨b1, b2, b3, b4⟩, c, d, f, g1, g2, g3, g4, g5⟩ := n
  have hbx : T.2.2.2.1 x = some (rf_n jn 3 S.1 Fn .leaf, eu) := by rw [d, if_pos rfl]
  have hbn : T.2.2.2.1 S.1 = none := by rw [d, if_neg (by omega)]; exact b2
  have gx : ∀ G, vx_eg T sf G → G x := fun G hg => hg.2 x _ _ hbx (fun y hy => by
    rw [vx_mt_call hy]
    exact hg.1 S.1 hbn (by omega))
  have h1 := vx_H_le hW hle hp (fun G hg m hm hms => by
    by_cases q : m = x
    · rw [q]
      exact gx G hg
    · exact hg.1 m (by rw [d, if_neg q]; exact hm) hms) h
  refine vx_H_drop (fun U G hx hg => ⟨vx_OK_call.mpr (fun i y i1 i2 => ?_), fun m hm => ?_⟩) h1
  · obtain ⟨z, z1, z2⟩ := hx x _ _ _ hbx i2
    have hj : T.2.2.2.2 j = S.2.2.2.2 j := hle.2.2.2 j ((hp _ (List.mem_cons_of_mem _ List.mem_cons_self)).2.1 j List.mem_cons_self)
    rw [hj] at i1
    refine hk i y i1 ?_
    rcases z1 with (⟨q, _⟩ | ⟨_, i', q, _⟩ | ⟨_, q, _⟩) | q
    · exact absurd q vx_30
    · rw [← z2, ← g2, ← g1]
      exact List.mem_map_of_mem (List.mem_of_getElem? q)
    · exact absurd rfl q
    · exact q.elim
  · rw [vx_mt_call hm]
    exact gx G hg
end
section
/-! ===== the walk meets an unknown ===== -/
def dv_RT (root : rf_N × (Int → Int)) (S : vx_S) (l : List (rf_N × (Int → Int))) : Prop := ∀ (j : Nat) (m : Int) (F : rf_N), root.1 = rf_n j 3 m F .leaf → l = [] ∨ (l = [root] ∧ S.2.2.2.1 m = none)
end
section
/-! ===== a step of the walk ===== -/
/-- links and the walk's pile alone have changed -/
theorem dv_WK_F {tv tc : Int → rf_T} {n0 : Int} {Qs : (Int → rf_N) → Prop} {p : vx_P} {root : rf_N × (Int → Int)} {r : List dv_E} {sf L : Int} {AL : Int → Prop} {bs : Nat} {mk0 : Int} {cL cR : List (Int × Int)} {s u : sx_S} {S : vx_S} {PR : Int → List (Int × Int)} {tm : Int → Int → rf_T} {cur cur' : List (rf_N × (Int → Int))} {ws ws' : List dv_K} (h : dv_WK tv tc n0 Qs p root r sf L AL bs mk0 cL cR s S PR tm cur ws) (hI : cx_I u) (hF : cx_F [(29, 32), (46, 52)] s u) (hl : dv_lm mk0 s u) (hws : dv_ws u S.2.2.2.2 (u.1 29 3) ws') (h46 : u.1 46 6 = (ws'.length : Int)) (hH : vx_H S sf AL (dv_sn s) (dv_se s) (cur' ++ ws'.map dv_kf) root) (hKn : vx_Kn S AL p root (cur' ++ ws'.map dv_kf)) (hks : dv_ks tv tc tm S bs L ws') (hin : ∀ q ∈ cur', vx_in S q.1) (hm : ∀ k ∈ ws', mk0 ≤ k.2.2) : dv_WK tv tc n0 Qs p root r sf L AL bs mk0 cL cR u S PR tm cur' ws' ∧ dv_WF mk0 s u S S := by
  obtain ⟨hG, _, ⟨f7, f12, L0, fal⟩, hse, _, _, ⟨o1, o2, o3, _⟩, hbs, hmk, hmks, hps, h2p⟩ := h trivial
  obtain ⟨g1, g2, g3, g4, ⟨g5, g6⟩, g7, g8⟩ := hG trivial
  obtain ⟨⟨M1, M2, M3, M5⟩, M4⟩ := g2 trivial
  have nf : dv_nf (s.1 11 6) S.2.2.2.2 S.2.2.2.2 s u := dv_nf_F _ hF (by decide)
  have e53 : u.2.1 53 = s.2.1 53 := (hF.same 53 rfl).2
  have e54 : u.2.1 54 = s.2.1 54 := (hF.same 54 rfl).2
  have e38 : u.1 38 = s.1 38 := (hF.same 38 rfl).1
  have esn : dv_sn u = dv_sn s := by
    funext y
    unfold dv_sn
    rw [e53]
  have ese : dv_se u = dv_se s := by
    funext y z
    unfold dv_se
    rw [e53]
  have ps' : dv_ps u S.2.2.2.2 mk0 r := dv_ps_fr (Int.le_refl _) nf (hl trivial).2 (fun i _ => by
    rw [(hF.same 40 rfl).2, (hF.same 41 rfl).2, (hF.same 42 rfl).2, (hF.same 43 rfl).2, (hF.same 44 rfl).2, (hF.same 45 rfl).2]
    exact ⟨rfl, rfl, rfl, rfl, rfl, rfl⟩) hps
  refine ⟨fun _ => ⟨fun _ => ⟨hI, dv_M_fr (Int.le_refl _) (by rw [(hF.same 11 rfl).1]) nf (by rw [(hF.same 33 rfl).1]) (hF.same 34 rfl).2 (hF.same 35 rfl).2 (hF.same 36 rfl).2 (hF.same 37 rfl).2 g2, g3, g4, ⟨dv_ps_hi (hl trivial).1 ps', by rw [(hF.same 39 rfl).1]; exact g6⟩, g7, g8⟩, ⟨hws, h46⟩, ⟨by rw [e38]; exact f7, by rw [e38]; exact f12, L0, fun v => by rw [← fal v]; unfold dv_al; rw [e38, e54]⟩, by rw [e53]; exact hse, ⟨by rw [esn, ese]; exact hH, hKn⟩, hks, ⟨o1, o2, o3, hin⟩, hbs, (hl trivial).1, hm, ps', h2p⟩, fun _ => ⟨cx_F_step hF rfl (cx_F_refl _ _), hl, vx_l2_refl S, nf, ⟨M2, by rw [(hF.same 11 rfl).1]; exact M2⟩, e54⟩⟩
theorem dv_ms_e {s u : sx_S} {ws : List dv_K} (h : u.2.1 53 = s.2.1 53) : dv_ms u ws = dv_ms s ws := by
  unfold dv_ms dv_cs
  rw [h]
/-- the pile of ARGs -/
def dv_wz (F : rf_N) (c : List (Int × Int)) (L mk : Int) : List dv_K := (vx_el F).map (fun a => ((a, c), L, mk))
theorem dv_wz_kf {F : rf_N} {c : List (Int × Int)} {L mk : Int} : (dv_wz F c L mk).map dv_kf = (vx_el F).map (fun A => (A, dv_lk c)) := by
  unfold dv_wz
  rw [List.map_map]
  rfl
theorem dv_wz_len {F : rf_N} {c : List (Int × Int)} {L mk : Int} : (dv_wz F c L mk).length = rf_len F := by
  unfold dv_wz
  rw [List.length_map, vx_el_len]
theorem dv_wz_hz {c : List (Int × Int)} {L mk : Int} {ws : List dv_K} : ∀ {F : rf_N}, dv_hz (dv_wz F c L mk ++ ws) = vx_hz F + dv_hz ws
  | .leaf => by
    show dv_hz ws = 0 + dv_hz ws
    omega
  | .inner j q u F X => by
    have ih := dv_wz_hz (c := c) (L := L) (mk := mk) (ws := ws) (F := X)
    show vx_hz (.inner j q () F .leaf) + dv_hz (dv_wz X c L mk ++ ws) = _
    rw [ih, vx_hz_in, vx_hz_in]
    have e : vx_hz .leaf = 0 := rfl
    omega
theorem dv_ks_wz {tv tc : Int → rf_T} {tm : Int → Int → rf_T} {S : vx_S} {bs : Nat} {L L' mk : Int} {c : List (Int × Int)} {ws : List dv_K} (hL : L ≤ L') (hks : dv_ks tv tc tm S bs L ws) : ∀ {l : List rf_N}, l.length ≤ 4 → (∀ A ∈ l, (∃ lt t, vx_sd tv tc tm S lt L' t A c) ∧ ∀ i', i' ≤ ws.length + 3 → vx_c1 S bs A mk L' i') → dv_ks tv tc tm S bs L (l.map (fun a => ((a, c), L', mk)) ++ ws)
  | [], _, _ => hks
  | A :: l, h4, h => by
    rw [List.length_cons] at h4
    refine ⟨⟨(h A List.mem_cons_self).1, hL, (h A List.mem_cons_self).2 _ ?_⟩, dv_ks_wz hL hks (by omega) (fun B hB => h B (List.mem_cons_of_mem _ hB))⟩
    show (l.map _ ++ ws).length ≤ ws.length + 3
    rw [List.length_append, List.length_map]
    omega
end
section
/-! ===== the pairs of an unknown that is given a term ===== -/
def dv_gp (e : List (Int × Int)) : Nat → List Int → List (Int × Int)
  | _, [] => []
  | i, x :: r => if 0 ≤ x ∧ 0 ≤ dv_va e x then (dv_va e x, (i : Int)) :: dv_gp e (i + 1) r else dv_gp e (i + 1) r
theorem dv_gp_c (e : List (Int × Int)) (i : Nat) (x : Int) (r : List Int) : dv_gp e i (x :: r) = if 0 ≤ x ∧ 0 ≤ dv_va e x then (dv_va e x, (i : Int)) :: dv_gp e (i + 1) r else dv_gp e (i + 1) r := rfl
theorem dv_gp_snoc {e : List (Int × Int)} {x : Int} : ∀ {l : List Int} {i : Nat}, dv_gp e i (l ++ [x]) = dv_gp e i l ++ (if 0 ≤ x ∧ 0 ≤ dv_va e x then [(dv_va e x, ((i + l.length : Nat) : Int))] else [])
  | [], i => by
    show dv_gp e i [x] = [] ++ _
    rw [dv_gp_c, List.nil_append]
    rfl
  | y :: l, i => by
    have ih := dv_gp_snoc (e := e) (x := x) (l := l) (i := i + 1)
    rw [List.cons_append, dv_gp_c, dv_gp_c, ih, List.length_cons, show i + 1 + l.length = i + (l.length + 1) by omega]
    by_cases b : 0 ≤ y ∧ 0 ≤ dv_va e y
    · rw [if_pos b, if_pos b]
      rfl
    · rw [if_neg b, if_neg b]
theorem dv_gp_mem {e : List (Int × Int)} {q : Int × Int} : ∀ {l : List Int} {i : Nat}, q ∈ dv_gp e i l ↔ ∃ (j : Nat) (x : Int), l[j]? = some x ∧ q = (dv_va e x, ((i + j : Nat) : Int)) ∧ 0 ≤ x ∧ 0 ≤ dv_va e x
  | [], i => ⟨fun h => absurd h List.not_mem_nil, fun ⟨j, x, h, _⟩ => by simp at h⟩
  | y :: l, i => by
    have ih := dv_gp_mem (e := e) (q := q) (l := l) (i := i + 1)
    have up : (∃ (j : Nat) (x : Int), l[j]? = some x ∧ q = (dv_va e x, ((i + 1 + j : Nat) : Int)) ∧ 0 ≤ x ∧ 0 ≤ dv_va e x) → ∃ (j : Nat) (x : Int), (y :: l)[j]? = some x ∧ q = (dv_va e x, ((i + j : Nat) : Int)) ∧ 0 ≤ x ∧ 0 ≤ dv_va e x := fun ⟨j, x, a, b, c⟩ => ⟨j + 1, x, by rw [List.getElem?_cons_succ]; exact a, by rw [b, show i + 1 + j = i + (j + 1) by omega], c⟩
    rw [dv_gp_c]
    constructor
    · intro h
      by_cases b : 0 ≤ y ∧ 0 ≤ dv_va e y
      · rw [if_pos b] at h
        rcases List.mem_cons.mp h with h | h
        · exact ⟨0, y, rfl, h, b⟩
        · exact up (ih.mp h)
      · rw [if_neg b] at h
        exact up (ih.mp h)
    · rintro ⟨j, x, a, b, c⟩
      cases j with
      | zero =>
        have a' : y = x := by simpa using a
        subst a'
        rw [if_pos c]
        exact List.mem_cons.mpr (Or.inl b)
      | succ j =>
        rw [List.getElem?_cons_succ] at a
        have := ih.mpr ⟨j, x, a, by rw [b, show i + 1 + j = i + (j + 1) by omega], c⟩
        by_cases b' : 0 ≤ y ∧ 0 ≤ dv_va e y
        · rw [if_pos b']
          exact List.mem_cons_of_mem _ this
        · rw [if_neg b']
          exact this
theorem dv_gp_len {e : List (Int × Int)} : ∀ {l : List Int} {i : Nat}, (dv_gp e i l).length ≤ l.length
  | [], _ => Nat.le_refl _
  | x :: l, i => by
    have ih := dv_gp_len (e := e) (l := l) (i := i + 1)
    rw [dv_gp_c, List.length_cons]
    by_cases b : 0 ≤ x ∧ 0 ≤ dv_va e x
    · rw [if_pos b, List.length_cons]
      omega
    · rw [if_neg b]
      omega
theorem dv_gp_snd {e : List (Int × Int)} : ∀ {l : List Int} {i : Nat}, ((dv_gp e i l).map Prod.snd).Pairwise (· < ·) ∧ ∀ q ∈ dv_gp e i l, (i : Int) ≤ q.2
  | [], _ => ⟨List.Pairwise.nil, fun _ h => absurd h List.not_mem_nil⟩
  | x :: l, i => by
    obtain ⟨h1, h2⟩ := dv_gp_snd (e := e) (l := l) (i := i + 1)
    rw [dv_gp_c]
    by_cases b : 0 ≤ x ∧ 0 ≤ dv_va e x
    · rw [if_pos b, List.map_cons]
      refine ⟨List.pairwise_cons.mpr ⟨fun y hy => ?_, h1⟩, fun q hq => ?_⟩
      · obtain ⟨q, q1, q2⟩ := List.mem_map.mp hy
        have := h2 q q1
        show (i : Int) < y
        omega
      · rcases List.mem_cons.mp hq with rfl | hq
        · exact Int.le_refl _
        · have := h2 q hq
          omega
    · rw [if_neg b]
      exact ⟨h1, fun q hq => by have := h2 q hq; omega⟩
/-- a good chain: the variable at a level has that level -/
theorem dv_va_lk {L : Int} {e : List (Int × Int)} (h : vx_ck L e) {x : Int} (hx : 0 ≤ dv_va e x) : dv_lk e (dv_va e x) = x := by
  obtain ⟨h1, _⟩ := h trivial
  rcases dv_va_in (l := e) (x := x) with q | ⟨q, _⟩
  · exact dv_lk_mem h1 q
  · omega
theorem dv_lk_va {L : Int} {e : List (Int × Int)} (h : vx_ck L e) {z : Int} (hz : 0 ≤ dv_lk e z) : dv_va e (dv_lk e z) = z ∧ 0 ≤ z := by
  obtain ⟨h1, h2, h3⟩ := h trivial
  rcases dv_lk_in (l := e) (x := z) with q | ⟨q, _⟩
  · refine ⟨?_, (h2 _ q).2.2⟩
    rcases dv_va_in (l := e) (x := dv_lk e z) with q' | ⟨_, q'⟩
    · exact (h3 _ q _ q' hz rfl).symm
    · exact absurd (List.mem_map_of_mem q) q'
  · omega
theorem dv_gp_fst {L : Int} {e : List (Int × Int)} (h : vx_ck L e) : ∀ {l : List Int} {i : Nat}, l.Nodup → ((dv_gp e i l).map Prod.fst).Nodup
  | [], _, _ => List.nodup_nil
  | x :: l, i, hn => by
    obtain ⟨n1, n2⟩ := List.nodup_cons.mp hn
    have ih := dv_gp_fst h (l := l) (i := i + 1) n2
    rw [dv_gp_c]
    by_cases b : 0 ≤ x ∧ 0 ≤ dv_va e x
    · rw [if_pos b, List.map_cons]
      refine List.nodup_cons.mpr ⟨fun m => ?_, ih⟩
      obtain ⟨q, q1, q2⟩ := List.mem_map.mp m
      obtain ⟨j, y, y1, y2, y3, y4⟩ := dv_gp_mem.mp q1
      rw [y2] at q2
      have e1 : dv_va e y = dv_va e x := q2
      have e2 := dv_va_lk h y4
      rw [e1, dv_va_lk h b.2] at e2
      rw [← e2] at y1
      exact n1 (List.mem_of_getElem? y1)
    · rw [if_neg b]
      exact ih
/-- what the pairs say -/
theorem dv_gp_eu {L : Int} {e : List (Int × Int)} (h : vx_ck L e) {xs : List Int} (hn : xs.Nodup) (h0 : ∀ x ∈ xs, 0 ≤ x) : (∀ z (i : Nat), xs[i]? = some (dv_lk e z) → dv_lk (dv_gp e 0 xs).reverse z = (i : Int)) ∧ (∀ z, 0 ≤ dv_lk (dv_gp e 0 xs).reverse z → dv_lk e z = xs.getD (dv_lk (dv_gp e 0 xs).reverse z).toNat (-1) ∧ (dv_lk (dv_gp e 0 xs).reverse z).toNat < xs.length) ∧ ∀ z, dv_lk (dv_gp e 0 xs).reverse z < (xs.length : Int) := by
  have P1 := dv_gp_fst h (i := 0) hn
  have Pr := dv_lk_rev P1
  have key : ∀ z, 0 ≤ dv_lk (dv_gp e 0 xs).reverse z → dv_lk e z = xs.getD (dv_lk (dv_gp e 0 xs).reverse z).toNat (-1) ∧ (dv_lk (dv_gp e 0 xs).reverse z).toNat < xs.length := fun z hz => by
    rcases dv_lk_in (l := (dv_gp e 0 xs).reverse) (x := z) with q | ⟨q, _⟩
    · obtain ⟨j, x, x1, x2, x3, x4⟩ := dv_gp_mem.mp (List.mem_reverse.mp q)
      rw [Nat.zero_add] at x2
      have a1 : z = dv_va e x := (Prod.mk.inj x2).1
      have a2 : dv_lk (dv_gp e 0 xs).reverse z = (j : Int) := (Prod.mk.inj x2).2
      obtain ⟨hj, _⟩ := List.getElem?_eq_some_iff.mp x1
      rw [a2, Int.toNat_natCast, List.getD_eq_getElem?_getD, x1]
      refine ⟨?_, hj⟩
      rw [a1, dv_va_lk h x4]
      rfl
    · omega
  refine ⟨fun z i hi => ?_, key, fun z => ?_⟩
  · have x0 := h0 _ (List.mem_of_getElem? hi)
    obtain ⟨v1, v2⟩ := dv_lk_va h x0
    have m : (z, (i : Int)) ∈ dv_gp e 0 xs := dv_gp_mem.mpr ⟨i, dv_lk e z, hi, by rw [Nat.zero_add, v1], x0, by rw [v1]; exact v2⟩
    exact dv_lk_mem Pr (List.mem_reverse.mpr m)
  · by_cases q : 0 ≤ dv_lk (dv_gp e 0 xs).reverse z
    · have := (key z q).2
      omega
    · omega
end
section
/-! ===== an unknown is given a term: state and memory ===== -/
def dv_gT (S : vx_S) (sf : Int) (B : rf_N) (P : List (Int × Int)) : vx_S := (S.1, S.2.1, S.2.2.1, fun v => if v = sf then some (B, dv_lk P.reverse) else S.2.2.2.1 v, S.2.2.2.2)
/-- what the memory is then -/
def dv_gm (sf b : Int) (P : List (Int × Int)) (u t : sx_S) : Prop := True → t.1 = u.1 ∧ (∀ i : Nat, t.2.1 34 i = if i = sf.toNat then b else u.2.1 34 i) ∧ dv_pr t sf P ∧ (∀ i : Nat, i ≠ sf.toNat → t.2.1 35 i = u.2.1 35 i) ∧ (∀ i : Nat, i < sf.toNat * 4 ∨ sf.toNat * 4 + 4 ≤ i → t.2.1 36 i = u.2.1 36 i ∧ t.2.1 37 i = u.2.1 37 i)
theorem dv_G_gv {tv tc : Int → rf_T} {n0 : Int} {Qs : (Int → rf_N) → Prop} {r : List dv_E} {sf L b : Int} {AL : Int → Prop} {bs : Nat} {mk0 : Int} {cL cR : List (Int × Int)} {j : Nat} {F B : rf_N} {u t : sx_S} {S : vx_S} {PR : Int → List (Int × Int)} {tm : Int → Int → rf_T} (hQ : ∀ th th', vx_ag n0 th th' → Qs th → Qs th') (hWK : dv_WK tv tc n0 Qs ((rf_n j 3 sf F .leaf, dv_lk cL), (B, dv_lk cR), L) (B, dv_lk cR) r sf L AL bs mk0 cL cR u S PR tm [] []) (hAL : ∀ v, AL v → v < L → v ∈ (S.2.2.2.2 j).map (dv_lk cL)) (hjn : (S.2.2.2.2 j).Nodup) (hb : dv_at u S.2.2.2.2 B b) (hB : vx_lh B ≤ 67 ∧ vx_hh B ≤ 26 ∧ vx_hz B ≤ 1024) (hIt : cx_I t) (hF : cx_F [(33, 37)] u t) (hm : dv_gm sf b (dv_gp cR 0 ((S.2.2.2.2 j).map (dv_lk cL))) u t) : ∃ T PR', vx_l2 (fun C => C = B) S T ∧ dv_G tv tc n0 Qs t T PR' tm [] r := by
  obtain ⟨hG, _, ⟨f7, f12, L0, fal⟩, hse, ⟨hH, hKn⟩, _, ⟨o1, o2, ⟨o3, o4, o5⟩, _⟩, hbs, hmk, _, hps, h2p⟩ := hWK trivial
  obtain ⟨g1, g2, g3, g4, ⟨g5, g6⟩, g7, g8⟩ := hG trivial
  obtain ⟨⟨W, B1, Sc, rk, hrk⟩, TS⟩ := g3 trivial
  obtain ⟨⟨M1, M2, M3, M5⟩, M4⟩ := g2 trivial
  obtain ⟨lt, ty, sL, sR⟩ := h2p trivial
  obtain ⟨⟨iL, _, tL⟩, vL, ⟨_, ckL⟩, _⟩ := sL trivial
  obtain ⟨⟨iR, sgB, tR⟩, vR, ⟨_, ckR⟩, _, nbR⟩ := sR trivial
  have hlen := vx_in_len iL
  have x0 := vx_sd_open o1 hlen sL
  obtain ⟨s0, s1⟩ := iL.1 sf (Or.inl ⟨rfl, rfl⟩)
  obtain ⟨lkL1, lkL2⟩ := vx_ck_lk L0 ckL
  obtain ⟨lkR1, _⟩ := vx_ck_lk L0 ckR
  have xn : ((S.2.2.2.2 j).map (dv_lk cL)).Nodup := by
    refine List.pairwise_map.mpr (List.Pairwise.imp_of_mem (fun {a b} ha hb' hne e => ?_) hjn)
    exact hne (lkL2 a b (x0 a ha) e)
  have xp : ∀ x ∈ (S.2.2.2.2 j).map (dv_lk cL), 0 ≤ x := fun x hx => by
    obtain ⟨y, y1, y2⟩ := List.mem_map.mp hx
    rw [← y2]
    exact x0 y y1
  have xl : (((S.2.2.2.2 j).map (dv_lk cL)).length : Int) = S.2.2.1 sf := by rw [List.length_map]; exact hlen
  obtain ⟨e1, e2, e3⟩ := dv_gp_eu ckR xn xp
  have P1 := dv_gp_fst ckR (i := 0) xn
  have P2 : ((dv_gp cR 0 ((S.2.2.2.2 j).map (dv_lk cL))).map Prod.snd).Nodup := List.Pairwise.imp (fun q e => by omega) (dv_gp_snd (e := cR) (l := (S.2.2.2.2 j).map (dv_lk cL)) (i := 0)).1
  have P3 : ∀ q ∈ dv_gp cR 0 ((S.2.2.2.2 j).map (dv_lk cL)), (0 ≤ q.2 ∧ q.2 < S.2.2.1 sf) ∧ 0 ≤ q.1 ∧ q.1 ∈ cR.map Prod.fst ∧ ∃ y, (S.2.2.2.2 j)[q.2.toNat]? = some y ∧ dv_lk cR q.1 = dv_lk cL y ∧ 0 ≤ dv_lk cL y := fun q hq => by
    obtain ⟨i, x, a1, a2, a3, a4⟩ := dv_gp_mem.mp hq
    rw [Nat.zero_add] at a2
    obtain ⟨hi, _⟩ := List.getElem?_eq_some_iff.mp a1
    rw [a2]
    refine ⟨⟨by show 0 ≤ (i : Int); omega, by show (i : Int) < _; omega⟩, a4, ?_, ?_⟩
    · rcases dv_va_in (l := cR) (x := x) with w | ⟨w, _⟩
      · exact List.mem_map.mpr ⟨_, w, rfl⟩
      · omega
    · rw [List.getElem?_map] at a1
      cases hy : (S.2.2.2.2 j)[i]? with
      | none =>
        rw [hy] at a1
        cases a1
      | some y =>
        rw [hy] at a1
        have a5 : dv_lk cL y = x := Option.some.inj a1
        refine ⟨y, by show (S.2.2.2.2 j)[((i : Int)).toNat]? = _; rw [Int.toNat_natCast]; exact hy, ?_, by rw [a5]; exact a3⟩
        show dv_lk cR (dv_va cR x) = _
        rw [dv_va_lk ckR a4, a5]
  obtain ⟨okB, gB⟩ := (hH (vx_U S) _ rk hrk (vx_ex_U S) (vx_eg_E S sf o1)).2 (fun c hc => absurd hc List.not_mem_nil)
  have hz : ∀ z, vx_fv (vx_U S) S.2.2.2.2 z B → 0 ≤ dv_lk (dv_gp cR 0 ((S.2.2.2.2 j).map (dv_lk cL))).reverse z := fun z hz => by
    obtain ⟨i, h1, h2⟩ := List.getElem_of_mem (hAL _ (okB z hz) (lkR1 z).2)
    rw [e1 z i (by rw [List.getElem?_eq_getElem h1, h2])]
    omega
  have hgv : vx_gv S (dv_gT S sf B (dv_gp cR 0 ((S.2.2.2.2 j).map (dv_lk cL)))) sf B (dv_lk (dv_gp cR 0 ((S.2.2.2.2 j).map (dv_lk cL))).reverse) := ⟨⟨rfl, rfl, rfl, rfl⟩, ⟨o1, s0, s1⟩, fun _ => rfl, ⟨iR, vx_sg_1 sgB⟩, fun z => by have := e3 z; omega⟩
  have hle := vx_gv_le hgv
  have hU : ∀ v i, v < S.1 → vx_U (dv_gT S sf B (dv_gp cR 0 ((S.2.2.2.2 j).map (dv_lk cL)))) v i → vx_U S v i := fun v i _ h => vx_gv_U hgv hz v i h
  have hJ := vx_J_give (j := j) (F := F) (u := sf) (L := L) g8 W hgv hQ (fun q hq => by
    rcases List.mem_cons.mp hq with rfl | hq
    · exact ⟨o4, o5⟩
    · exact dv_es_in g7 q hq) xn (fun x hx => by
      obtain ⟨y, _, y2⟩ := List.mem_map.mp hx
      rw [← y2]
      exact (lkL1 y).2) (fun z => (lkR1 z).2) e1 (fun z hz' => (e2 z hz').1)
  obtain ⟨rk', hrk'⟩ := vx_gv_rk hgv hrk gB
  obtain ⟨m1, m2, m3, m4, m5⟩ := hm trivial
  have nf : dv_nf (u.1 11 6) S.2.2.2.2 S.2.2.2.2 u t := dv_nf_F _ hF (by decide)
  obtain ⟨PR', hPR⟩ : ∃ f : Int → List (Int × Int), ∀ v, f v = if v = sf then dv_gp cR 0 ((S.2.2.2.2 j).map (dv_lk cL)) else PR v := ⟨fun v => if v = sf then dv_gp cR 0 ((S.2.2.2.2 j).map (dv_lk cL)) else PR v, fun _ => rfl⟩
  obtain ⟨_, _, _, _, _, c5, _⟩ := g4 trivial
  refine ⟨dv_gT S sf B (dv_gp cR 0 ((S.2.2.2.2 j).map (dv_lk cL))), PR', vx_gv_l2 hgv, fun _ => ⟨hIt, fun _ => ⟨⟨?_, ?_, M3, fun v v0 v1 => ?_⟩, fun v v0 v1 => ?_⟩, fun _ => ⟨⟨vx_gv_W hgv W, vx_gv_B1 hgv B1, vx_gv_Sc hgv hz Sc, rk', hrk'⟩, fun v B' e' hb' => ?_⟩, vx_CT_gv hgv hB g4, ⟨?_, by rw [m1]; exact g6⟩, dv_es_le W hle hU (fun _ _ _ => rfl) g7, hJ⟩⟩
  · rw [m1]
    exact M1
  · rw [m1]
    exact M2
  · have v0' : S.1 ≤ (v : Int) := v0
    rw [m2, if_neg (by omega)]
    exact M5 v v0 v1
  · obtain ⟨av, bv⟩ := M4 v v0 v1
    refine ⟨av, ?_⟩
    by_cases q : v = sf
    · refine Or.inr ⟨B, ?_, ?_, ?_, fun w hw => ?_, ?_, ?_⟩
      · show (if v = sf then _ else S.2.2.2.1 v) = some (_, dv_lk (PR' v).reverse)
        rw [if_pos q, hPR, if_pos q]
      · rw [m2, if_pos (by rw [q])]
        exact dv_at_fr (Int.le_refl _) nf hb
      · rw [hPR, if_pos q, q]
        exact m3
      · rw [hPR, if_pos q] at hw
        rw [q]
        exact (P3 w hw).1
      · rw [hPR, if_pos q]
        exact P1
      · rw [hPR, if_pos q]
        exact P2
    · have hne : v.toNat ≠ sf.toNat := by omega
      rcases bv with ⟨b1, b2⟩ | ⟨B', b1, b2, b3, b4, b5, b6⟩
      · refine Or.inl ⟨?_, by rw [m2, if_neg hne]; exact b2⟩
        show (if v = sf then _ else S.2.2.2.1 v) = none
        rw [if_neg q]
        exact b1
      · refine Or.inr ⟨B', ?_, ?_, ?_, fun w hw => ?_, ?_, ?_⟩
        · show (if v = sf then _ else S.2.2.2.1 v) = some (_, dv_lk (PR' v).reverse)
          rw [if_neg q, hPR, if_neg q]
          exact b1
        · rw [m2, if_neg hne]
          exact dv_at_fr (Int.le_refl _) nf b2
        · rw [hPR, if_neg q]
          intro _
          obtain ⟨r1, r2, r3⟩ := b3 trivial
          refine ⟨by rw [m4 _ hne]; exact r1, r2, fun i w hw => ?_⟩
          obtain ⟨r4, r5⟩ := r3 i w hw
          obtain ⟨hi, _⟩ := List.getElem?_eq_some_iff.mp hw
          obtain ⟨r6, r7⟩ := m5 (v * 4 + (i : Int)).toNat (by omega)
          exact ⟨r6.trans r4, r7.trans r5⟩
        · rw [hPR, if_neg q] at hw
          exact b4 w hw
        · rw [hPR, if_neg q]
          exact b5
        · rw [hPR, if_neg q]
          exact b6
  · have hb2 : (if v = sf then some (B, dv_lk (dv_gp cR 0 ((S.2.2.2.2 j).map (dv_lk cL))).reverse) else S.2.2.2.1 v) = some (B', e') := hb'
    by_cases q : v = sf
    · rw [if_pos q] at hb2
      rw [hPR, if_pos q]
      obtain ⟨rfl, rfl⟩ := Prod.mk.inj (Option.some.inj hb2)
      have tyb : ty = rf_b := by
        rcases tL with ⟨w, _⟩ | ⟨w, _⟩ | ⟨w, _⟩ | ⟨_, w, _⟩
        · exact absurd w vx_30
        · have w' : (3 : Int) = 1 := w
          omega
        · have w' : (3 : Int) = 2 := w
          omega
        · exact w
      refine ⟨rfl, ⟨sgB, by rw [tyb] at tR; exact tR⟩, fun w hw => ?_, P1, P2, vx_nb_mono (fun z hz' => ?_) nbR⟩
      · obtain ⟨p1, p2, _, y, y1, y2, y3⟩ := P3 w hw
        have c1 := vx_ty_call tL _ _ y1
        rw [Int.toNat_of_nonneg p1.1] at c1
        refine ⟨?_, p1.1, by rw [q]; exact p1.2, p2⟩
        rw [vR w.1 (by rw [y2]; exact y3), y2, ← vL y y3, c1, q]
      · obtain ⟨w, w1, w2⟩ := List.mem_map.mp hz'
        rw [← w2]
        exact (P3 w w1).2.2.1
    · rw [if_neg q] at hb2
      rw [hPR, if_neg q]
      exact TS v B' e' hb2
  · rw [m1]
    refine dv_ps_fr (Int.le_refl _) nf (fun i _ => ?_) (fun i _ => ?_) g5
    · rw [(hF.same 30 rfl).2, (hF.same 31 rfl).2, (hF.same 32 rfl).2]
      exact ⟨rfl, rfl, rfl⟩
    · rw [(hF.same 40 rfl).2, (hF.same 41 rfl).2, (hF.same 42 rfl).2, (hF.same 43 rfl).2, (hF.same 44 rfl).2, (hF.same 45 rfl).2]
      exact ⟨rfl, rfl, rfl, rfl, rfl, rfl⟩
end
section
/-! ===== a step of solving ===== -/
theorem dv_G_tp {tv tc : Int → rf_T} {n0 : Int} {Qs : (Int → rf_N) → Prop} {s u : sx_S} {S : vx_S} {PR : Int → List (Int × Int)} {tm : Int → Int → rf_T} {p : dv_E} {r : List dv_E} {A B : rf_N} {c e : List (Int × Int)} {L : Int} (h : dv_G tv tc n0 Qs s S PR tm [] (p :: r)) (hI : cx_I u) (hF : cx_F [(29, 32), (38, 39)] s u) (h39 : u.1 39 6 = (r.length : Int)) (hl : dv_lm p.2.2.2 s u) (hd : vx_rd S p.1.1 p.1.2 p.2.1.1 p.2.1.2 p.2.2.1 A c B e L) : dv_G tv tc n0 Qs u S PR tm [((A, dv_lk c), (B, dv_lk e), L)] r := fun _ => by
  obtain ⟨g1, g2, g3, g4, ⟨⟨_, _, _, _, g5⟩, g6⟩, ⟨_, g7⟩, g8⟩ := h trivial
  have nf : dv_nf (s.1 11 6) S.2.2.2.2 S.2.2.2.2 s u := dv_nf_F _ hF (by decide)
  refine ⟨hI, dv_M_fr (Int.le_refl _) (by rw [(hF.same 11 rfl).1]) nf (by rw [(hF.same 33 rfl).1]) (hF.same 34 rfl).2 (hF.same 35 rfl).2 (hF.same 36 rfl).2 (hF.same 37 rfl).2 g2, g3, g4, ⟨dv_ps_hi (hl trivial).1 (dv_ps_fr (Int.le_refl _) nf (hl trivial).2 (fun i _ => ?_) g5), h39⟩, g7, ?_⟩
  · rw [(hF.same 40 rfl).2, (hF.same 41 rfl).2, (hF.same 42 rfl).2, (hF.same 43 rfl).2, (hF.same 44 rfl).2, (hF.same 45 rfl).2]
    exact ⟨rfl, rfl, rfl, rfl, rfl, rfl⟩
  · refine vx_J_rep (ps := [((A, dv_lk c), (B, dv_lk e), L)]) (p := dv_pe p) (pend := r.map dv_pe) g8 (fun th hS => ?_)
    have hx : vx_pe th S.2.2.2.2 (dv_pe p) ↔ vx_pe th S.2.2.2.2 ((A, dv_lk c), (B, dv_lk e), L) := (hd trivial).1 th hS
    exact ⟨fun h q hq => by rw [List.mem_singleton.mp hq]; exact hx.mp h, fun h => hx.mpr (h _ List.mem_cons_self)⟩
/-- one pair in place of another that says the same -/
theorem dv_G_rep {tv tc : Int → rf_T} {n0 : Int} {Qs : (Int → rf_N) → Prop} {s : sx_S} {S : vx_S} {PR : Int → List (Int × Int)} {tm : Int → Int → rf_T} {p q : vx_P} {r : List dv_E} (h : dv_G tv tc n0 Qs s S PR tm [p] r) (hp : ∀ th, vx_So S th → (vx_pe th S.2.2.2.2 p ↔ vx_pe th S.2.2.2.2 q)) : vx_J S n0 Qs ([q] ++ r.map dv_pe) := by
  obtain ⟨_, _, _, _, _, _, g8⟩ := h trivial
  refine vx_J_rep (ps := [q]) (p := p) (pend := r.map dv_pe) g8 (fun th hS => ?_)
  rw [hp th hS]
  exact ⟨fun h w hw => by rw [List.mem_singleton.mp hw]; exact h, fun h => h _ List.mem_cons_self⟩
/-- two heads are taken apart: the pairs of their ARGs -/
theorem dv_es_zp {tv tc : Int → rf_T} {tm : Int → Int → rf_T} {S : vx_S} {j j' : Nat} {k h k' h' L u : Int} {F F' : rf_N} {c e : List (Int × Int)} {r : List dv_E} (h0 : k ≠ 0) (h3 : k ≠ 3) (h0' : k' ≠ 0) (h3' : k' ≠ 3) (hr : dv_es tv tc tm S r) (h4 : rf_len F ≤ 4) {lt : Int → rf_T} {t t' uu : rf_T} (s1 : vx_sd tv tc tm S lt L t (rf_n j k h F .leaf) c) (s2 : vx_sd tv tc tm S lt L t' (rf_n j' k' h' F' .leaf) e) (tF : (vx_ty tv tc tm S.2.2.2.2 F).2 uu) (tF' : (vx_ty tv tc tm S.2.2.2.2 F').2 uu) (hc : vx_c2 S (rf_n j k h F .leaf) (rf_n j' k' h' F' .leaf) u L r.length) : dv_es tv tc tm S (dv_zp F F' c e L u ++ r) := by
  obtain ⟨hl, hel⟩ := vx_ty_el tF tF'
  have key : ∀ (l l' : List rf_N), l.length ≤ 4 → l.length = l'.length → (∀ (i : Nat) A B, l[i]? = some A → l'[i]? = some B → (A ∈ vx_el F ∧ B ∈ vx_el F') ∧ ∃ t, (vx_ty tv tc tm S.2.2.2.2 A).1 t ∧ (vx_ty tv tc tm S.2.2.2.2 B).1 t) → dv_es tv tc tm S (List.zipWith (fun a b => ((a, c), (b, e), L, u)) l l' ++ r) := by
    intro l
    induction l with
    | nil => exact fun l' _ _ _ => by rw [List.zipWith_nil_left]; exact hr
    | cons A l ih =>
      intro l' hl4 hle hh
      cases l' with
      | nil => cases hle
      | cons B l' =>
        rw [List.length_cons] at hl4
        rw [List.length_cons, List.length_cons] at hle
        obtain ⟨⟨m1, m2⟩, ty, y1, y2⟩ := hh 0 A B rfl rfl
        refine ⟨⟨fun _ => ⟨lt, ty, vx_sd_el h0 h3 m1 y1 s1, vx_sd_el h0' h3' m2 y2 s2⟩, vx_c2_el h0 h3 h0' h3' m1 m2 ?_ hc⟩, ih l' (by omega) (by omega) (fun i A' B' e1 e2 => hh (i + 1) A' B' e1 e2)⟩
        show (List.zipWith _ l l' ++ r).length ≤ r.length + 3
        rw [List.length_append, List.length_zipWith]
        omega
  exact key (vx_el F) (vx_el F') (by rw [vx_el_len]; exact h4) (by rw [vx_el_len, vx_el_len]; exact hl) (fun i A B e1 e2 => ⟨⟨List.mem_of_getElem? e1, List.mem_of_getElem? e2⟩, hel i A B e1 e2⟩)
/-- A' is reached from A by the unknowns w, each given -/
def vw_wy (S : vx_S) : List Int → rf_N → rf_N → Prop
  | [], A, A' => A = A'
  | m :: w, A, A' => ∃ (j : Nat) (F B : rf_N) (e : Int → Int), A = rf_n j 3 m F .leaf ∧ S.2.2.2.1 m = some (B, e) ∧ vw_wy S w B A'
theorem vw_wy_snoc {S : vx_S} {j : Nat} {m : Int} {F X : rf_N} {e : Int → Int} (hb : S.2.2.2.1 m = some (X, e)) : ∀ {w : List Int} {A : rf_N}, vw_wy S w A (rf_n j 3 m F .leaf) → vw_wy S (w ++ [m]) A X
  | [], A, h => ⟨j, F, X, e, h, hb, rfl⟩
  | n :: w, A, ⟨j', F', B, e', h1, h2, h3⟩ => ⟨j', F', B, e', h1, h2, vw_wy_snoc hb h3⟩
/-- not two calls of one unknown with the same ARGs -/
def vw_ne (S : vx_S) (A : rf_N) (c : List (Int × Int)) (B : rf_N) (e : List (Int × Int)) : Prop := ∀ (j j' : Nat) (m : Int) (F F' : rf_N), A = rf_n j 3 m F .leaf → B = rf_n j' 3 m F' .leaf → (S.2.2.2.2 j).map (dv_lk c) ≠ (S.2.2.2.2 j').map (dv_lk e)
/-- the pair p without its \ -/
def vw_D (tv tc : Int → rf_T) (tm : Int → Int → rf_T) (S : vx_S) (p : dv_E) (A : rf_N) (c : List (Int × Int)) (B : rf_N) (e : List (Int × Int)) (L : Int) : Prop := True → vx_rd S p.1.1 p.1.2 p.2.1.1 p.2.1.2 p.2.2.1 A c B e L ∧ vx_2 tv tc tm S A c B e L ∧ ¬ vx_isl A ∧ ¬ vx_isl B
/-- what a step makes of the pile p :: r -/
def vw_ST (tv tc : Int → rf_T) (tm : Int → Int → rf_T) (S S' : vx_S) (p : dv_E) (r r' : List dv_E) : Prop := True → ∃ (A : rf_N) (c : List (Int × Int)) (B : rf_N) (e : List (Int × Int)) (L : Int), vw_D tv tc tm S p A c B e L ∧ ((r' = r ∧ vx_l2 (fun C => ∃ w, vw_wy S w A C ∨ vw_wy S w B C) S S') ∨ (S' = S ∧ vw_ne S A c B e ∧ ∃ (wa wb : List Int) (j : Nat) (k h : Int) (F : rf_N) (j' : Nat) (k' h' : Int) (F' : rf_N) (c' e' : List (Int × Int)) (mk : Int), vw_wy S wa A (rf_n j k h F .leaf) ∧ vw_wy S wb B (rf_n j' k' h' F' .leaf) ∧ (k ≠ 0 ∧ k ≠ 3 ∧ k' ≠ 0 ∧ k' ≠ 3) ∧ rf_len F = rf_len F' ∧ r' = dv_zp F F' c' e' L mk ++ r))
end
section
/-! ===== the desk's solver: unifies, pieces ===== -/
theorem w_dv_tot {CALL : sx_Ca} {sL : Nat} {sx : Nat → Int32} {Q : Nat → sx_L → sx_S → Prop} {R : Int → sx_S → Prop} {s : sx_S} (hI : cx_I s) (hK : ∀ z : Int, (z = s.1 22 2) → R z s) : sx_wp true sL sx eX4_total CALL [] Q R 400 0 (sx_argsF 0 [.inr (.inl 22)]) [] s := by
  repeat' (first | (with_reducible (rintro _ rfl)) | (with_reducible intro _) | (refine And.intro ?_ ?_) | (refine hK _ ?_))
  all_goals (try dsimp only)
  repeat' (first | (with_reducible assumption) | ((with_reducible (change cx_I (sx_uf _ _ _ _, _))); refine cx_I_uf rfl rfl ?_ ?_ ?_) | ((with_reducible (change cx_I (_, sx_ua _ _ _ _, _))); refine cx_I_ua rfl rfl ?_ ?_ ?_) | ((with_reducible (change cx_I (_, sx_ua _ 16 _ _, _))); refine cx_I_ari ?_ ?_ ?_) | ((with_reducible (change cx_I (sx_uf _ 11 6 _, _))); refine cx_I_ufA rfl ?_ ?_ ?_ ?_) | (with_reducible exact cx_F_refl _ _) | ((with_reducible (change cx_F _ _ (sx_uf _ _ _ _, _))); refine cx_F_uf rfl ?_) | ((with_reducible (change cx_F _ _ (_, sx_ua _ _ _ _, _))); refine cx_F_ua rfl ?_) | ((with_reducible (change cx_I (_, sx_cpy _ _ _ _ _ _, _))); refine cx_I_cpy rfl rfl rfl (by decide) ?_) | ((with_reducible (change cx_F _ _ (_, sx_cpy _ _ _ _ _ _, _))); refine cx_F_cpy rfl ?_) | ((with_reducible (change cx_F _ _ _)); refine cx_F_step (by assumption) rfl ?_) | fail)
  all_goals (try dsimp only at *)
  all_goals (first | trivial | omega | rfl | (intros; omega) | (intros; rfl) | skip)

theorem c_dv_tot {sL : Nat} {sx : Nat → Int32} (hsL : sL ≤ 3072) (d : Nat) (hd : 2 ≤ d) : ∀ (s : sx_S) (K : Int → sx_S → Prop), cx_I s → (∀ z : Int, (z = s.1 22 2) → K z s) → sx_C sL sx d 52 [.inr (.inl 22)] s K := by
  intro  s K hI  hK
  obtain ⟨d, rfl⟩ : ∃ e, d = e + 2 := ⟨d - 2, by omega⟩
  exact sx_meth (wr := true) (n := 400) hsL (e := eX4_total) rfl (w_dv_tot (Q := fun _ _ _ => False)  hI  hK)

theorem w_dv_unk {CALL : sx_Ca} {sL : Nat} {sx : Nat → Int32} {Q : Nat → sx_L → sx_S → Prop} {R : Int → sx_S → Prop} (h_dv_tot : ∀ (s : sx_S) (K : Int → sx_S → Prop), cx_I s → (∀ z : Int, (z = s.1 22 2) → K z s) → CALL 52 [.inr (.inl 22)] s K) {s : sx_S} (hI : cx_I s) (hK : ∀ z : Int, (z = s.1 22 2) → R z s) : sx_wp true sL sx eX1_unknowns CALL [] Q R 400 0 (sx_argsF 0 [.inr (.inl 18)]) [] s := by
  repeat' (first | (with_reducible intro _) | (refine And.intro ?_ ?_) | (refine hK _ ?_) | (refine h_dv_tot _ _ ?_  ?_))
  all_goals (try dsimp only)
  repeat' (first | (with_reducible assumption) | ((with_reducible (change cx_I (sx_uf _ _ _ _, _))); refine cx_I_uf rfl rfl ?_ ?_ ?_) | ((with_reducible (change cx_I (_, sx_ua _ _ _ _, _))); refine cx_I_ua rfl rfl ?_ ?_ ?_) | ((with_reducible (change cx_I (_, sx_ua _ 16 _ _, _))); refine cx_I_ari ?_ ?_ ?_) | ((with_reducible (change cx_I (sx_uf _ 11 6 _, _))); refine cx_I_ufA rfl ?_ ?_ ?_ ?_) | (with_reducible exact cx_F_refl _ _) | ((with_reducible (change cx_F _ _ (sx_uf _ _ _ _, _))); refine cx_F_uf rfl ?_) | ((with_reducible (change cx_F _ _ (_, sx_ua _ _ _ _, _))); refine cx_F_ua rfl ?_) | ((with_reducible (change cx_I (_, sx_cpy _ _ _ _ _ _, _))); refine cx_I_cpy rfl rfl rfl (by decide) ?_) | ((with_reducible (change cx_F _ _ (_, sx_cpy _ _ _ _ _ _, _))); refine cx_F_cpy rfl ?_) | ((with_reducible (change cx_F _ _ _)); refine cx_F_step (by assumption) rfl ?_) | fail)
  all_goals (try dsimp only at *)
  all_goals (first | trivial | omega | rfl | (intros; omega) | (intros; rfl) | skip)

theorem c_dv_unk {sL : Nat} {sx : Nat → Int32} (hsL : sL ≤ 3072) (d : Nat) (hd : 3 ≤ d) : ∀ (s : sx_S) (K : Int → sx_S → Prop), cx_I s → (∀ z : Int, (z = s.1 22 2) → K z s) → sx_C sL sx d 15 [.inr (.inl 18)] s K := by
  intro  s K hI  hK
  obtain ⟨d, rfl⟩ : ∃ e, d = e + 2 := ⟨d - 2, by omega⟩
  exact sx_meth (wr := true) (n := 400) hsL (e := eX1_unknowns) rfl (w_dv_unk (Q := fun _ _ _ => False) (c_dv_tot hsL (d + 1) (by omega)) hI  hK)

theorem w_dv_eqs {CALL : sx_Ca} {sL : Nat} {sx : Nat → Int32} {Q : Nat → sx_L → sx_S → Prop} {R : Int → sx_S → Prop} {s : sx_S} (hI : cx_I s) (hK : ∀ z : Int, (z = s.1 18 10) → R z s) : sx_wp true sL sx eX1_equations CALL [] Q R 400 0 (sx_argsF 0 [.inr (.inl 18)]) [] s := by
  repeat' (first | (with_reducible (rintro _ rfl)) | (with_reducible intro _) | (refine And.intro ?_ ?_) | (refine hK _ ?_))
  all_goals (try dsimp only)
  repeat' (first | (with_reducible assumption) | ((with_reducible (change cx_I (sx_uf _ _ _ _, _))); refine cx_I_uf rfl rfl ?_ ?_ ?_) | ((with_reducible (change cx_I (_, sx_ua _ _ _ _, _))); refine cx_I_ua rfl rfl ?_ ?_ ?_) | ((with_reducible (change cx_I (_, sx_ua _ 16 _ _, _))); refine cx_I_ari ?_ ?_ ?_) | ((with_reducible (change cx_I (sx_uf _ 11 6 _, _))); refine cx_I_ufA rfl ?_ ?_ ?_ ?_) | (with_reducible exact cx_F_refl _ _) | ((with_reducible (change cx_F _ _ (sx_uf _ _ _ _, _))); refine cx_F_uf rfl ?_) | ((with_reducible (change cx_F _ _ (_, sx_ua _ _ _ _, _))); refine cx_F_ua rfl ?_) | ((with_reducible (change cx_I (_, sx_cpy _ _ _ _ _ _, _))); refine cx_I_cpy rfl rfl rfl (by decide) ?_) | ((with_reducible (change cx_F _ _ (_, sx_cpy _ _ _ _ _ _, _))); refine cx_F_cpy rfl ?_) | ((with_reducible (change cx_F _ _ _)); refine cx_F_step (by assumption) rfl ?_) | fail)
  all_goals (try dsimp only at *)
  all_goals (first | trivial | omega | rfl | (intros; omega) | (intros; rfl) | skip)

theorem c_dv_eqs {sL : Nat} {sx : Nat → Int32} (hsL : sL ≤ 3072) (d : Nat) (hd : 2 ≤ d) : ∀ (s : sx_S) (K : Int → sx_S → Prop), cx_I s → (∀ z : Int, (z = s.1 18 10) → K z s) → sx_C sL sx d 16 [.inr (.inl 18)] s K := by
  intro  s K hI  hK
  obtain ⟨d, rfl⟩ : ∃ e, d = e + 2 := ⟨d - 2, by omega⟩
  exact sx_meth (wr := true) (n := 400) hsL (e := eX1_equations) rfl (w_dv_eqs (Q := fun _ _ _ => False)  hI  hK)

theorem w_dv_cl {CALL : sx_Ca} {sL : Nat} {sx : Nat → Int32} {Q : Nat → sx_L → sx_S → Prop} {R : Int → sx_S → Prop} (h_fil34 : ∀ (v : Int) (s : sx_S) (K : Int → sx_S → Prop), cx_I s → (-2147483648 ≤ v ∧ v ≤ 2147483647) → (∀ t, cx_I t → cx_F [(34, 34)] s t → t.1 = s.1 → (∀ j : Nat, j < 32 → t.2.1 34 j = v) → K 0 t) → CALL 219 [.inr (.inl 34), .inl v] s K) (h_fil35 : ∀ (v : Int) (s : sx_S) (K : Int → sx_S → Prop), cx_I s → (0 ≤ v ∧ v ≤ 4) → (∀ t, cx_I t → cx_F [(35, 35)] s t → t.1 = s.1 → (∀ j : Nat, j < 32 → t.2.1 35 j = v) → K 0 t) → CALL 219 [.inr (.inl 35), .inl v] s K) {s : sx_S} {a0 : Int} (hI : cx_I s) (p0 : 0 ≤ a0 ∧ a0 ≤ 32) (hK : ∀ t, cx_I t → cx_F [(33, 35)] s t → t.1 33 6 = a0 → (∀ i : Nat, i < 32 → t.2.1 34 i = -1) → (∀ i : Nat, i < 32 → t.2.1 35 i = 0) → R 0 t) : sx_wp true sL sx eX0_clear CALL [] Q R 400 0 (sx_argsF 0 [.inr (.inl 33), .inl a0]) [] s := by
  have iA : cx_I (sx_uf s.1 33 6 a0, s.2) := cx_I_uf rfl rfl hI (by omega) (by omega)
  refine h_fil34 (-1) (sx_uf s.1 33 6 a0, s.2) _ iA (by omega) (fun t1 i1 f1 e1 g1 => ?_)
  refine h_fil35 0 t1 _ i1 (by omega) (fun t2 i2 f2 e2 g2 => ?_)
  refine hK t2 i2 (cx_F_step f2 rfl (cx_F_step f1 rfl (cx_F_uf rfl (cx_F_refl _ _)))) ?_ (fun i hi => ?_) g2
  · rw [e2, e1]
    show sx_uf s.1 33 6 a0 33 6 = a0
    exact px_us _ _ _ _
  · rw [(f2.same 34 rfl).2]
    exact g1 i hi
theorem c_dv_cl {sL : Nat} {sx : Nat → Int32} (hsL : sL ≤ 3072) (d : Nat) (hd : 3 ≤ d) : ∀ (a0 : Int) (s : sx_S) (K : Int → sx_S → Prop), cx_I s → (0 ≤ a0 ∧ a0 ≤ 32) → (∀ t, cx_I t → cx_F [(33, 35)] s t → t.1 33 6 = a0 → (∀ i : Nat, i < 32 → t.2.1 34 i = -1) → (∀ i : Nat, i < 32 → t.2.1 35 i = 0) → K 0 t) → sx_C sL sx d 1 [.inr (.inl 33), .inl a0] s K := by
  intro a0 s K hI p0 hK
  obtain ⟨d, rfl⟩ : ∃ e, d = e + 2 := ⟨d - 2, by omega⟩
  exact sx_meth (wr := true) (n := 400) hsL (e := eX0_clear) rfl (w_dv_cl (Q := fun _ _ _ => False) (c_dv_fill34 hsL (d + 1) (by omega)) (c_dv_fill35 hsL (d + 1) (by omega)) hI p0 hK)
theorem w_dv_rt {CALL : sx_Ca} {sL : Nat} {sx : Nat → Int32} {Q : Nat → sx_L → sx_S → Prop} {R : Int → sx_S → Prop} {s : sx_S} {a0 a1 : Int} (hI : cx_I s) (p0 : 0 ≤ a0 ∧ a0 < s.1 18 10) (p1 : 0 ≤ a1 ∧ a1 ≤ 1) (hK : R (s.2.1 26 (2 * a0 + a1).toNat) s) : sx_wp true sL sx eX1_sideRoot CALL [] Q R 400 0 (sx_argsF 0 [.inr (.inl 18), .inl a0, .inl a1]) [] s := by
  have h18 := hI.fld 18 10 (by decide) rfl
  have zzm : sx_w true (2 * a0) = 2 * a0 := px_wid (by omega) (by omega)
  have zzp : sx_w true (2 * a0 + a1) = 2 * a0 + a1 := px_wid (by omega) (by omega)
  repeat' (first | (with_reducible (rintro _ rfl)) | (with_reducible intro _) | (refine And.intro ?_ ?_))
  all_goals (try dsimp only at *)
  all_goals (first | trivial | assumption | omega | (exfalso; omega) | (simp only [zzm, zzp] at *; first | assumption | omega) | (simp only [zzm, zzp]; exact hK) | (rw [← zzm, ← zzp] at hK; exact hK) | skip)
theorem c_dv_rt {sL : Nat} {sx : Nat → Int32} (hsL : sL ≤ 3072) (d : Nat) (hd : 2 ≤ d) : ∀ (a0 a1 : Int) (s : sx_S) (K : Int → sx_S → Prop), cx_I s → (0 ≤ a0 ∧ a0 < s.1 18 10) → (0 ≤ a1 ∧ a1 ≤ 1) → K (s.2.1 26 (2 * a0 + a1).toNat) s → sx_C sL sx d 18 [.inr (.inl 18), .inl a0, .inl a1] s K := by
  intro a0 a1 s K hI p0 p1 hK
  obtain ⟨d, rfl⟩ : ∃ e, d = e + 2 := ⟨d - 2, by omega⟩
  exact sx_meth (wr := true) (n := 400) hsL (e := eX1_sideRoot) rfl (w_dv_rt (Q := fun _ _ _ => False) hI p0 p1 hK)
end
