/-! ===== THE TEXT, pure: blanks, words, tokens ===== -/
abbrev px_bl (c : Int) : Prop := c = 9 ∨ c = 10 ∨ c = 13 ∨ c = 32
abbrev px_le (c : Int) : Prop := (97 ≤ c ∧ c ≤ 122) ∨ (65 ≤ c ∧ c ≤ 90)
abbrev px_wd (c : Int) : Prop := px_le c ∨ (48 ≤ c ∧ c ≤ 57)
def px_blb (c : Int) : Bool := decide (px_bl c)
def px_wdb (c : Int) : Bool := decide (px_wd c)
/-- from k on, as long as p holds of the bytes of the text -/
def px_rn (p : Int → Bool) (b : Nat → Int) (n : Int) : Nat → Int → Int
  | 0, k => k
  | f + 1, k => if k < n ∧ p (b k.toNat) = true then px_rn p b n f (k + 1) else k
def px_ru (p : Int → Bool) (b : Nat → Int) (n k : Int) : Int := px_rn p b n (n - k).toNat k
theorem px_ru_go {p : Int → Bool} {b : Nat → Int} {n k : Int} (h : k < n) (hp : p (b k.toNat) = true) : px_ru p b n k = px_ru p b n (k + 1) := by
  unfold px_ru
  obtain ⟨f, hf⟩ : ∃ f, (n - k).toNat = f + 1 := ⟨(n - k).toNat - 1, by omega⟩
  have e : (n - (k + 1)).toNat = f := by omega
  rw [hf, e, px_rn, if_pos ⟨h, hp⟩]
theorem px_ru_st {p : Int → Bool} {b : Nat → Int} {n k : Int} (h : ¬ (k < n ∧ p (b k.toNat) = true)) : px_ru p b n k = k := by
  unfold px_ru
  cases (n - k).toNat with
  | zero => rfl
  | succ f => rw [px_rn, if_neg h]
theorem px_rn_ge {p : Int → Bool} {b : Nat → Int} {n : Int} : ∀ (f : Nat) (k : Int), k ≤ px_rn p b n f k
  | 0, k => Int.le_refl k
  | f + 1, k => by
    rw [px_rn]
    split
    · have := px_rn_ge (p := p) (b := b) (n := n) f (k + 1)
      omega
    · exact Int.le_refl k
theorem px_ru_ge {p : Int → Bool} {b : Nat → Int} {n k : Int} : k ≤ px_ru p b n k := px_rn_ge _ _
theorem px_rn_le {p : Int → Bool} {b : Nat → Int} {n : Int} : ∀ (f : Nat) (k : Int), k ≤ n → px_rn p b n f k ≤ n
  | 0, k, h => h
  | f + 1, k, h => by
    rw [px_rn]
    split
    · rename_i q
      exact px_rn_le f (k + 1) (by have := q.1; omega)
    · exact h
theorem px_ru_le {p : Int → Bool} {b : Nat → Int} {n k : Int} (h : k ≤ n) : px_ru p b n k ≤ n := px_rn_le _ _ h
/-- a word's kind, a sign's kind; kinds: 0 the end, 1 none, 2 NAME, 3 con, 4 met, 5 eq, 6 o, 7 i, 8 the arrow, 9 .. 15 ( ) \ : . ; = -/
def px_wq (j : Nat) (b : Nat → Int) (k e : Int) : Bool := match j with
  | 1 => decide (e - k = 3 ∧ b (k + 0).toNat = 99 ∧ b (k + 1).toNat = 111 ∧ b (k + 2).toNat = 110)
  | 2 => decide (e - k = 3 ∧ b (k + 0).toNat = 109 ∧ b (k + 1).toNat = 101 ∧ b (k + 2).toNat = 116)
  | 3 => decide (e - k = 2 ∧ b (k + 0).toNat = 101 ∧ b (k + 1).toNat = 113)
  | 4 => decide (e - k = 1 ∧ b (k + 0).toNat = 111)
  | _ => decide (e - k = 1 ∧ b (k + 0).toNat = 105)
def px_wk (b : Nat → Int) (k e : Int) : Int := if 8 < e - k then 1 else cond (px_wq 1 b k e) 3 (cond (px_wq 2 b k e) 4 (cond (px_wq 3 b k e) 5 (cond (px_wq 4 b k e) 6 (cond (px_wq 5 b k e) 7 2))))
theorem px_wk_0 (b : Nat → Int) (k e : Int) : px_wk b k e ≠ 0 := by
  unfold px_wk
  split
  · decide
  · cases px_wq 1 b k e <;> cases px_wq 2 b k e <;> cases px_wq 3 b k e <;> cases px_wq 4 b k e <;> cases px_wq 5 b k e <;> decide
def px_s7 (c : Int) : Int := if c = 40 then 9 else if c = 41 then 10 else if c = 92 then 11 else if c = 58 then 12 else if c = 46 then 13 else if c = 59 then 14 else if c = 61 then 15 else 1
def px_sg (b : Nat → Int) (n k : Int) : Int := if b k.toNat = 45 then (if k + 1 < n ∧ b (k + 1).toNat = 62 then 8 else 1) else px_s7 (b k.toNat)
theorem px_s7_v (c : Int) : px_s7 c ≠ 0 ∧ px_s7 c ≠ 8 := by
  unfold px_s7
  (repeat' split) <;> decide
def px_kd (b : Nat → Int) (n k : Int) : Int := if n ≤ k then 0 else if px_le (b k.toNat) then px_wk b k (px_ru px_wdb b n k) else px_sg b n k
def px_en (b : Nat → Int) (n k : Int) : Int := if n ≤ k then k else if px_le (b k.toNat) then px_ru px_wdb b n k else if px_sg b n k = 8 then k + 2 else k + 1
/-- where token i begins, its kind; it is looked at only where none before it is the end or none -/
def px_ps (b : Nat → Int) (n : Int) : Nat → Int
  | 0 => px_ru px_blb b n 0
  | i + 1 => px_ru px_blb b n (px_en b n (px_ps b n i))
def px_K (b : Nat → Int) (n : Int) (i : Nat) : Int := px_kd b n (px_ps b n i)
def px_lv (b : Nat → Int) (n : Int) (i : Nat) : Prop := ∀ j, j < i → px_K b n j ≠ 0 ∧ px_K b n j ≠ 1
/-- tokens i and j have the same bytes -/
def px_sn (b : Nat → Int) (n : Int) (i j : Nat) : Prop := True → px_en b n (px_ps b n i) - px_ps b n i = px_en b n (px_ps b n j) - px_ps b n j ∧ ∀ k : Int, 0 ≤ k → k < px_en b n (px_ps b n i) - px_ps b n i → b (px_ps b n i + k).toNat = b (px_ps b n j + k).toNat
theorem px_en_gt {b : Nat → Int} {n k : Int} (h : k < n) : k < px_en b n k := by
  unfold px_en
  rw [if_neg (by omega)]
  split
  · rename_i q
    have hp : px_wdb (b k.toNat) = true := decide_eq_true (Or.inl q)
    rw [px_ru_go h hp]
    have := px_ru_ge (p := px_wdb) (b := b) (n := n) (k := k + 1)
    omega
  · split <;> omega
theorem px_en_le {b : Nat → Int} {n k : Int} (h : k ≤ n) : px_en b n k ≤ n := by
  unfold px_en
  split
  · exact h
  · split
    · exact px_ru_le h
    · split
      · rename_i e
        unfold px_sg at e
        split at e
        · split at e
          · rename_i q3
            omega
          · exact absurd e (by decide)
        · exact absurd e (px_s7_v _).2
      · omega
theorem px_kd_0 {b : Nat → Int} {n k : Int} (h : px_kd b n k = 0) : n ≤ k := by
  unfold px_kd at h
  split at h
  · assumption
  · split at h
    · exact absurd h (px_wk_0 _ _ _)
    · unfold px_sg at h
      split at h
      · split at h <;> exact absurd h (by decide)
      · exact absurd h (px_s7_v _).1
/-- a token's kind as the reference numbers it -/
def px_rc (k : Int) : Int := if k = 0 then 7 else if k = 1 then 8 else if k = 2 then 1 else if k = 3 then 2 else if k = 4 then 3 else if k = 5 then 4 else if k = 6 then 5 else if k = 7 then 6 else if k = 8 then 9 else if k = 9 then 40 else if k = 10 then 41 else if k = 11 then 92 else if k = 12 then 58 else if k = 13 then 46 else if k = 14 then 59 else 61
theorem px_kdw {b : Nat → Int} {n a m : Int} (h1 : a < n) (h2 : px_le (b a.toNat)) (h3 : px_ru px_wdb b n (a + m) = px_ru px_wdb b n a) (h4 : ¬ (a + m < n ∧ px_wd (b (a + m).toNat))) : px_kd b n a = px_wk b a (a + m) ∧ px_en b n a = a + m := by
  have e : px_ru px_wdb b n a = a + m := by
    rw [← h3]
    exact px_ru_st (fun q => h4 ⟨q.1, of_decide_eq_true q.2⟩)
  have h5 : ¬ n ≤ a := by omega
  unfold px_kd px_en
  simp only [if_neg h5, if_pos h2, e, and_self]
theorem px_kds {b : Nat → Int} {n a : Int} (h1 : a < n) (h2 : ¬ px_le (b a.toNat)) : px_kd b n a = px_sg b n a ∧ px_en b n a = (if px_sg b n a = 8 then a + 2 else a + 1) := by
  have h5 : ¬ n ≤ a := by omega
  unfold px_kd px_en
  simp only [if_neg h5, if_neg h2, and_self]
theorem px_kde {b : Nat → Int} {n a : Int} (h1 : n ≤ a) : px_kd b n a = 0 ∧ px_en b n a = a := by
  unfold px_kd px_en
  rw [if_pos h1, if_pos h1]
  exact ⟨rfl, rfl⟩
theorem px_ps_le {b : Nat → Int} {n : Int} (h : 0 ≤ n) : ∀ i, px_ps b n i ≤ n
  | 0 => px_ru_le h
  | i + 1 => px_ru_le (px_en_le (px_ps_le h i))
theorem px_ps_ge {b : Nat → Int} {n : Int} : ∀ i, 0 ≤ px_ps b n i
  | 0 => px_ru_ge
  | i + 1 => by
    have h0 := px_ps_ge (b := b) (n := n) i
    have h1 := px_ru_ge (p := px_blb) (b := b) (n := n) (k := px_en b n (px_ps b n i))
    have h2 : px_ps b n i ≤ px_en b n (px_ps b n i) := by
      rcases Int.lt_or_le (px_ps b n i) n with q | q
      · have := px_en_gt (b := b) q
        omega
      · rw [(px_kde q).2]
        exact Int.le_refl _
    show 0 ≤ px_ru px_blb b n (px_en b n (px_ps b n i))
    omega
theorem px_en_ge {b : Nat → Int} {n k : Int} : k ≤ px_en b n k := by
  rcases Int.lt_or_le k n with q | q
  · have := px_en_gt (b := b) q
    omega
  · rw [(px_kde q).2]
    exact Int.le_refl _
/-- the same bytes, as far as the first x go -/
def px_sp (b : Nat → Int) (n : Int) (i j : Nat) (x : Int) : Prop := True → px_en b n (px_ps b n i) - px_ps b n i = px_en b n (px_ps b n j) - px_ps b n j ∧ ∀ k : Int, 0 ≤ k → k < x → b (px_ps b n i + k).toNat = b (px_ps b n j + k).toNat
theorem px_sp_go {b : Nat → Int} {n : Int} {i j : Nat} {x : Int} (h : px_sp b n i j x) (e : b (px_ps b n i + x).toNat = b (px_ps b n j + x).toNat) : px_sp b n i j (x + 1) := by
  refine fun _ => ⟨(h trivial).1, fun k k0 k1 => ?_⟩
  rcases Int.lt_or_le k x with q | q
  · exact (h trivial).2 k k0 q
  · have : k = x := by omega
    rw [this]
    exact e
theorem px_sp_end {b : Nat → Int} {n : Int} {i j : Nat} {x : Int} (h : px_sp b n i j x) (e : px_en b n (px_ps b n i) - px_ps b n i ≤ x) : px_sn b n i j := fun _ => ⟨(h trivial).1, fun k k0 k1 => (h trivial).2 k k0 (by omega)⟩
theorem px_sn_no {b : Nat → Int} {n : Int} {i j : Nat} {x : Int} (h0 : 0 ≤ x) (h1 : x < px_en b n (px_ps b n i) - px_ps b n i) (e : b (px_ps b n i + x).toNat ≠ b (px_ps b n j + x).toNat) : ¬ px_sn b n i j := fun h => e ((h trivial).2 x h0 h1)
theorem px_sn_nl {b : Nat → Int} {n : Int} {i j : Nat} (e : px_en b n (px_ps b n i) - px_ps b n i ≠ px_en b n (px_ps b n j) - px_ps b n j) : ¬ px_sn b n i j := fun h => e (h trivial).1
/-! only the text's own bytes count -/
theorem px_rn_cg {p : Int → Bool} {b c : Nat → Int} {n : Int} (h : ∀ k : Nat, (k : Int) < n → b k = c k) : ∀ (f : Nat) (k : Int), 0 ≤ k → px_rn p b n f k = px_rn p c n f k
  | 0, _, _ => rfl
  | f + 1, k, h0 => by
    rw [px_rn, px_rn]
    by_cases q : k < n
    · rw [h k.toNat (by omega), px_rn_cg h f (k + 1) (by omega)]
    · rw [if_neg (fun z => q z.1), if_neg (fun z => q z.1)]
theorem px_ru_cg {p : Int → Bool} {b c : Nat → Int} {n k : Int} (h : ∀ k : Nat, (k : Int) < n → b k = c k) (h0 : 0 ≤ k) : px_ru p b n k = px_ru p c n k := px_rn_cg h _ _ h0
theorem px_wk_cg {b c : Nat → Int} {n k e : Int} (h : ∀ k : Nat, (k : Int) < n → b k = c k) (h0 : 0 ≤ k) (he : e ≤ n) : px_wk b k e = px_wk c k e := by
  have g : ∀ i : Int, 0 ≤ i → k + i < e → b (k + i).toNat = c (k + i).toNat := fun i i0 i1 => h _ (by omega)
  have a3 : ∀ x y z : Int, (e - k = 3 ∧ b (k + 0).toNat = x ∧ b (k + 1).toNat = y ∧ b (k + 2).toNat = z) = (e - k = 3 ∧ c (k + 0).toNat = x ∧ c (k + 1).toNat = y ∧ c (k + 2).toNat = z) := by
    intro x y z
    by_cases q : e - k = 3
    · rw [g 0 (by omega) (by omega), g 1 (by omega) (by omega), g 2 (by omega) (by omega)]
    · simp [q]
  have a2 : ∀ x y : Int, (e - k = 2 ∧ b (k + 0).toNat = x ∧ b (k + 1).toNat = y) = (e - k = 2 ∧ c (k + 0).toNat = x ∧ c (k + 1).toNat = y) := by
    intro x y
    by_cases q : e - k = 2
    · rw [g 0 (by omega) (by omega), g 1 (by omega) (by omega)]
    · simp [q]
  have a1 : ∀ x : Int, (e - k = 1 ∧ b (k + 0).toNat = x) = (e - k = 1 ∧ c (k + 0).toNat = x) := by
    intro x
    by_cases q : e - k = 1
    · rw [g 0 (by omega) (by omega)]
    · simp [q]
  have q : ∀ j, px_wq j b k e = px_wq j c k e := by
    intro j
    unfold px_wq
    split <;> simp only [a3, a2, a1]
  unfold px_wk
  simp only [q]
theorem px_sg_cg {b c : Nat → Int} {n k : Int} (h : ∀ k : Nat, (k : Int) < n → b k = c k) (h0 : 0 ≤ k) (hk : k < n) : px_sg b n k = px_sg c n k := by
  have a : (k + 1 < n ∧ b (k + 1).toNat = 62) = (k + 1 < n ∧ c (k + 1).toNat = 62) := by
    by_cases q : k + 1 < n
    · rw [h (k + 1).toNat (by omega)]
    · simp [q]
  unfold px_sg
  simp only [a, h k.toNat (by omega)]
theorem px_kd_cg {b c : Nat → Int} {n k : Int} (h : ∀ k : Nat, (k : Int) < n → b k = c k) (h0 : 0 ≤ k) : px_kd b n k = px_kd c n k ∧ px_en b n k = px_en c n k := by
  rcases Int.lt_or_le k n with q | q
  · unfold px_kd px_en
    have e1 := h k.toNat (by omega)
    rw [px_ru_cg h h0, px_sg_cg h h0 q, px_wk_cg h h0 (px_ru_le (by omega)), e1]
    exact ⟨rfl, rfl⟩
  · rw [(px_kde q).1, (px_kde q).1, (px_kde q).2, (px_kde q).2]
    exact ⟨rfl, rfl⟩
theorem px_ps_cg {b c : Nat → Int} {n : Int} (h : ∀ k : Nat, (k : Int) < n → b k = c k) : ∀ i, px_ps b n i = px_ps c n i
  | 0 => px_ru_cg h (by omega)
  | i + 1 => by
    show px_ru px_blb b n (px_en b n (px_ps b n i)) = px_ru px_blb c n (px_en c n (px_ps c n i))
    rw [← px_ps_cg h i, ← (px_kd_cg h (px_ps_ge i)).2]
    exact px_ru_cg h (Int.le_trans (px_ps_ge (b := b) (n := n) i) px_en_ge)
theorem px_K_cg {b c : Nat → Int} {n : Int} (h : ∀ k : Nat, (k : Int) < n → b k = c k) : px_K b n = px_K c n := by
  funext i
  unfold px_K
  rw [← px_ps_cg h i]
  exact (px_kd_cg h (px_ps_ge i)).1
theorem px_sn_cg {b c : Nat → Int} {n : Int} (h : ∀ k : Nat, (k : Int) < n → b k = c k) (i j : Nat) (hn : 0 ≤ n) : px_sn b n i j ↔ px_sn c n i j := by
  have e1 := px_ps_cg h i
  have e2 := px_ps_cg h j
  have f1 : px_en b n (px_ps b n i) = px_en c n (px_ps c n i) := by rw [← e1]; exact (px_kd_cg h (px_ps_ge i)).2
  have f2 : px_en b n (px_ps b n j) = px_en c n (px_ps c n j) := by rw [← e2]; exact (px_kd_cg h (px_ps_ge j)).2
  have l1 : px_en c n (px_ps c n i) ≤ n := px_en_le (px_ps_le hn i)
  have l2 : px_en c n (px_ps c n j) ≤ n := px_en_le (px_ps_le hn j)
  have g1 := px_ps_ge (b := c) (n := n) i
  have g2 := px_ps_ge (b := c) (n := n) j
  unfold px_sn
  rw [f1, f2, e1, e2]
  constructor
  · intro q _
    obtain ⟨q1, q2⟩ := q trivial
    refine ⟨q1, fun k k0 k1 => ?_⟩
    rw [← h _ (by omega), ← h _ (by omega)]
    exact q2 k k0 k1
  · intro q _
    obtain ⟨q1, q2⟩ := q trivial
    refine ⟨q1, fun k k0 k1 => ?_⟩
    rw [h _ (by omega), h _ (by omega)]
    exact q2 k k0 k1
theorem px_wk_1 {b : Nat → Int} {k e : Int} (h : 8 < e - k) : px_wk b k e = 1 := if_pos h
theorem px_wk_3 {b : Nat → Int} {k e : Int} (h : e - k ≤ 8) {z1 : Int} (h1 : z1 ≠ 0 → px_wq 1 b k e = true) (g1 : z1 ≠ 0) : px_wk b k e = 3 := by
  unfold px_wk
  rw [if_neg (by omega), h1 g1]
  rfl
theorem px_wk_4 {b : Nat → Int} {k e : Int} (h : e - k ≤ 8) {z1 : Int} (h1 : z1 = 0 → px_wq 1 b k e = false) (g1 : z1 = 0) {z2 : Int} (h2 : z2 ≠ 0 → px_wq 2 b k e = true) (g2 : z2 ≠ 0) : px_wk b k e = 4 := by
  unfold px_wk
  rw [if_neg (by omega), h1 g1, h2 g2]
  rfl
theorem px_wk_5 {b : Nat → Int} {k e : Int} (h : e - k ≤ 8) {z1 : Int} (h1 : z1 = 0 → px_wq 1 b k e = false) (g1 : z1 = 0) {z2 : Int} (h2 : z2 = 0 → px_wq 2 b k e = false) (g2 : z2 = 0) {z3 : Int} (h3 : z3 ≠ 0 → px_wq 3 b k e = true) (g3 : z3 ≠ 0) : px_wk b k e = 5 := by
  unfold px_wk
  rw [if_neg (by omega), h1 g1, h2 g2, h3 g3]
  rfl
theorem px_wk_6 {b : Nat → Int} {k e : Int} (h : e - k ≤ 8) {z1 : Int} (h1 : z1 = 0 → px_wq 1 b k e = false) (g1 : z1 = 0) {z2 : Int} (h2 : z2 = 0 → px_wq 2 b k e = false) (g2 : z2 = 0) {z3 : Int} (h3 : z3 = 0 → px_wq 3 b k e = false) (g3 : z3 = 0) {z4 : Int} (h4 : z4 ≠ 0 → px_wq 4 b k e = true) (g4 : z4 ≠ 0) : px_wk b k e = 6 := by
  unfold px_wk
  rw [if_neg (by omega), h1 g1, h2 g2, h3 g3, h4 g4]
  rfl
theorem px_wk_7 {b : Nat → Int} {k e : Int} (h : e - k ≤ 8) {z1 : Int} (h1 : z1 = 0 → px_wq 1 b k e = false) (g1 : z1 = 0) {z2 : Int} (h2 : z2 = 0 → px_wq 2 b k e = false) (g2 : z2 = 0) {z3 : Int} (h3 : z3 = 0 → px_wq 3 b k e = false) (g3 : z3 = 0) {z4 : Int} (h4 : z4 = 0 → px_wq 4 b k e = false) (g4 : z4 = 0) {z5 : Int} (h5 : z5 ≠ 0 → px_wq 5 b k e = true) (g5 : z5 ≠ 0) : px_wk b k e = 7 := by
  unfold px_wk
  rw [if_neg (by omega), h1 g1, h2 g2, h3 g3, h4 g4, h5 g5]
  rfl
theorem px_wk_2 {b : Nat → Int} {k e : Int} (h : e - k ≤ 8) {z1 : Int} (h1 : z1 = 0 → px_wq 1 b k e = false) (g1 : z1 = 0) {z2 : Int} (h2 : z2 = 0 → px_wq 2 b k e = false) (g2 : z2 = 0) {z3 : Int} (h3 : z3 = 0 → px_wq 3 b k e = false) (g3 : z3 = 0) {z4 : Int} (h4 : z4 = 0 → px_wq 4 b k e = false) (g4 : z4 = 0) {z5 : Int} (h5 : z5 = 0 → px_wq 5 b k e = false) (g5 : z5 = 0) : px_wk b k e = 2 := by
  unfold px_wk
  rw [if_neg (by omega), h1 g1, h2 g2, h3 g3, h4 g4, h5 g5]
  rfl
theorem px_kd_s7 {b : Nat → Int} {n a c : Int} (h1 : a < n) (h2 : ¬ px_le (b a.toNat)) (h3 : ¬ (b a.toNat = 45 ∧ a + 1 < n ∧ b (a + 1).toNat = 62)) (hc : c = b a.toNat) : px_kd b n a = px_s7 c ∧ px_en b n a = a + 1 := by
  have e : px_sg b n a = px_s7 c := by
    unfold px_sg
    split
    · rename_i q
      rw [if_neg (fun z => h3 ⟨q, z⟩), hc, q]
      rfl
    · rw [hc]
  obtain ⟨g1, g2⟩ := px_kds h1 h2
  rw [g1, g2, e, if_neg (px_s7_v c).2]
  exact ⟨rfl, rfl⟩
theorem px_kd_ax {b : Nat → Int} {n a : Int} (h1 : a < n) (h2 : b a.toNat = 45) (h3 : a + 1 < n) (h4 : b (a + 1).toNat = 62) : px_kd b n a = 8 ∧ px_en b n a = a + 2 := by
  have e : px_sg b n a = 8 := by
    unfold px_sg
    rw [if_pos h2, if_pos ⟨h3, h4⟩]
  obtain ⟨g1, g2⟩ := px_kds (b := b) h1 (by omega)
  rw [g1, g2, e]
  exact ⟨rfl, rfl⟩
theorem px_s7_no {c : Int} (h : c ≠ 40 ∧ c ≠ 41 ∧ c ≠ 92 ∧ c ≠ 58 ∧ c ≠ 46 ∧ c ≠ 59 ∧ c ≠ 61) : px_s7 c = 1 := by
  unfold px_s7
  rw [if_neg h.1, if_neg h.2.1, if_neg h.2.2.1, if_neg h.2.2.2.1, if_neg h.2.2.2.2.1, if_neg h.2.2.2.2.2.1, if_neg h.2.2.2.2.2.2]
theorem px_s7_rc {c : Int} (h : c = 40 ∨ c = 41 ∨ c = 92 ∨ c = 58 ∨ c = 46 ∨ c = 59 ∨ c = 61) : c = px_rc (px_s7 c) := by
  rcases h with rfl | rfl | rfl | rfl | rfl | rfl | rfl <;> rfl
theorem px_sp_0 {b : Nat → Int} {n : Int} {i j : Nat} {x : Int} (hx : x ≤ 0) (e : px_en b n (px_ps b n i) - px_ps b n i = px_en b n (px_ps b n j) - px_ps b n j) : px_sp b n i j x := fun _ => ⟨e, fun k k0 k1 => by omega⟩
