/-! ===== the reference reads items, exactly: what holds on the way ===== -/
/-- item k is q, its nodes from lo up to hi -/
def px_itm (s : sx_S) (k : Nat) (lo hi : Int) (q : ((Int × Int × qx_T) × (px_N × px_N))) : Prop := (((s.2.1 85 k = 2 ∧ q.1.1 = 3) ∨ (s.2.1 85 k = 3 ∧ q.1.1 = 4)) ∧ lo ≤ hi ∧ s.2.1 86 k = q.1.2.1 ∧ qx_is s q.1.2.2 (s.2.1 87 k) ∧ s.2.1 89 k = (qx_at q.1.2.2 : Int)) ∨ (s.2.1 85 k = 4 ∧ q.1.1 = 5 ∧ ∃ mid, (lo ≤ mid ∧ mid ≤ hi ∧ 0 ≤ s.2.1 90 k ∧ 0 ≤ s.2.1 91 k) ∧ px_tr lo mid s (s.2.1 90 k) q.2.1 ∧ px_tr mid hi s (s.2.1 91 k) q.2.2)
def px_its (s : sx_S) (n hi : Int) (l : List ((Int × Int × qx_T) × (px_N × px_N))) : Prop := ∃ L : Nat → Int, 0 ≤ L 0 ∧ L n.toNat = hi ∧ ∀ k : Nat, (k : Int) < n → (∃ q, l[k]? = some q ∧ px_itm s k (L k) (L (k + 1)) q) ∧ L (k + 1) ≤ hi
theorem px_itm_up {s t : sx_S} {k : Nat} {lo hi m : Int} {q : ((Int × Int × qx_T) × (px_N × px_N))} (h : px_itm s k lo hi q) (he : ∀ p : Nat, 85 ≤ p → p ≤ 92 → t.2.1 p k = s.2.1 p k) (hn : rf_nt m s t) (hm : hi ≤ m) (hu : rf_tu s t) (h12 : s.1 66 12 ≤ t.1 66 12) (h8 : t.1 66 8 = 0 → s.1 66 8 = 0) : px_itm t k lo hi q := by
  unfold px_itm
  rw [he 85 (by decide) (by decide), he 86 (by decide) (by decide), he 87 (by decide) (by decide), he 89 (by decide) (by decide), he 90 (by decide) (by decide), he 91 (by decide) (by decide)]
  rcases h with ⟨a, b, c, d, e⟩ | ⟨a, a2, mid, b, c, d⟩
  · exact Or.inl ⟨a, b, c, qx_is_up d hu, e⟩
  · exact Or.inr ⟨a, a2, mid, b, px_tr_nt c hn hu (by omega) h12 h8, px_tr_nt d hn hu (by omega) h12 h8⟩
theorem px_its_up {s t : sx_S} {n hi m : Int} {l : List ((Int × Int × qx_T) × (px_N × px_N))} (h : px_its s n hi l) (he : rf_ie n s t) (hn : rf_nt m s t) (hm : hi ≤ m) (hu : rf_tu s t) (h12 : s.1 66 12 ≤ t.1 66 12) (h8 : t.1 66 8 = 0 → s.1 66 8 = 0) : px_its t n hi l := by
  obtain ⟨L, a, b, c⟩ := h
  refine ⟨L, a, b, fun k hk => ?_⟩
  obtain ⟨⟨q, c1, c2⟩, c3⟩ := c k hk
  exact ⟨⟨q, c1, px_itm_up c2 (fun p p1 p2 => he p k p1 p2 hk) hn (by omega) hu h12 h8⟩, c3⟩
theorem px_its_add {s : sx_S} {n lo hi : Int} {l : List ((Int × Int × qx_T) × (px_N × px_N))} {q : ((Int × Int × qx_T) × (px_N × px_N))} (h : px_its s n lo l) (h0 : 0 ≤ n) (hlen : l.length = n.toNat) (hl : lo ≤ hi) (hi' : px_itm s n.toNat lo hi q) : px_its s (n + 1) hi (l ++ [q]) := by
  obtain ⟨L, a, b, c⟩ := h
  refine ⟨fun j => if j ≤ n.toNat then L j else hi, ?_, ?_, fun k hk => ?_⟩
  · dsimp only
    rw [if_pos (Nat.zero_le _)]
    exact a
  · dsimp only
    rw [if_neg (by omega)]
  · dsimp only
    rw [if_pos (show k ≤ n.toNat by omega)]
    by_cases e : (k : Int) < n
    · rw [if_pos (show k + 1 ≤ n.toNat by omega)]
      obtain ⟨⟨q', c1, c2⟩, c3⟩ := c k e
      exact ⟨⟨q', by rw [List.getElem?_append_left (by omega)]; exact c1, c2⟩, Int.le_trans c3 hl⟩
    · have e1 : k = n.toNat := by omega
      rw [if_neg (show ¬ k + 1 ≤ n.toNat by omega), e1, b]
      exact ⟨⟨q, by rw [List.getElem?_append_right (by omega), hlen, Nat.sub_self]; rfl, hi'⟩, Int.le_refl _⟩
def px_b (b : Nat → Int) (n : Int) (t : sx_S) (l : List ((Int × Int × qx_T) × (px_N × px_N))) (p lo : Int) : Prop := px_its t (t.1 66 24) lo l ∧ l.length = (t.1 66 24).toNat ∧ lo ≤ t.1 66 12 ∧ ∀ l2, px_TX (px_K b n) l2 0 ↔ ∃ l3, l2 = l ++ l3 ∧ px_TX (px_K b n) l3 p
def px_st (b : Nat → Int) (n : Int) (t : sx_S) (P : Int → Int → Prop) : Prop := True → ∃ l p lo, px_b b n t l p lo ∧ P p lo
def px_nr (b : Nat → Int) (n : Int) (t : sx_S) : Prop := t.1 66 8 ≠ 0 → ∀ l, ¬ px_TX (px_K b n) l 0
abbrev px_c34 (b : Nat → Int) (n : Int) (t : sx_S) (p : Int) : Prop := ((px_K b n (p).toNat = 3 ∧ t.2.1 85 (t.1 66 24).toNat = 2) ∨ (px_K b n (p).toNat = 4 ∧ t.2.1 85 (t.1 66 24).toNat = 3))
def px_A0 (t : sx_S) (p lo : Int) : Prop := lo = t.1 66 12 ∧ p = t.1 66 7
def px_A64 (b : Nat → Int) (n : Int) (t : sx_S) (p lo : Int) : Prop := lo = t.1 66 12 ∧ p = t.1 66 7 ∧ px_c34 b n t p
def px_A88 (b : Nat → Int) (n : Int) (t : sx_S) (p lo : Int) : Prop := lo = t.1 66 12 ∧ px_c34 b n t p ∧ px_K b n (p + 1).toNat = 2 ∧ t.1 66 7 = p + 1 + 1 ∧ t.2.1 86 (t.1 66 24).toNat = p + 1
def px_A113 (b : Nat → Int) (n : Int) (t : sx_S) (p lo : Int) : Prop := lo = t.1 66 12 ∧ px_c34 b n t p ∧ px_K b n (p + 1).toNat = 2 ∧ px_K b n (p + 1 + 1).toNat = 12 ∧ t.1 66 7 = p + 1 + 1 + 1 ∧ t.2.1 86 (t.1 66 24).toNat = p + 1
def px_A138 (b : Nat → Int) (n : Int) (t : sx_S) (p lo : Int) : Prop := lo = t.1 66 12 ∧ px_c34 b n t p ∧ px_K b n (p + 1).toNat = 2 ∧ px_K b n (p + 1 + 1).toNat = 12 ∧ t.2.1 86 (t.1 66 24).toNat = p + 1 ∧ ∃ x, px_R0 b n 0 (p + 1 + 1 + 1) x (t.1 66 7) ∧ qx_is t x (t.2.1 87 (t.1 66 24).toNat) ∧ t.1 66 33 = (qx_at x : Int)
def px_A154 (b : Nat → Int) (n : Int) (x1 : Int) (t : sx_S) (p lo : Int) : Prop := lo = t.1 66 12 ∧ p = t.1 66 7 ∧ t.2.1 85 (t.1 66 24).toNat = x1 ∧ px_rc (px_K b n (p).toNat) = x1
def px_A159 (b : Nat → Int) (n : Int) (t : sx_S) (p lo : Int) : Prop := lo = t.1 66 12 ∧ p = t.1 66 7 ∧ px_K b n (p).toNat = 5 ∧ t.2.1 85 (t.1 66 24).toNat = 4
def px_A183 (b : Nat → Int) (n : Int) (t : sx_S) (p lo : Int) : Prop := px_K b n (p).toNat = 5 ∧ t.2.1 85 (t.1 66 24).toNat = 4 ∧ 0 ≤ t.2.1 90 (t.1 66 24).toNat ∧ ∃ tl, px_tm b n 0 (p + 1) tl (t.1 66 7) ∧ px_tr lo (t.1 66 12) t (t.2.1 90 (t.1 66 24).toNat) tl
def px_A198 (b : Nat → Int) (n : Int) (t : sx_S) (p lo : Int) : Prop := px_K b n (p).toNat = 5 ∧ t.2.1 85 (t.1 66 24).toNat = 4 ∧ 0 ≤ t.2.1 90 (t.1 66 24).toNat ∧ ∃ tl e, px_tm b n 0 (p + 1) tl e ∧ px_K b n (e).toNat = 15 ∧ t.1 66 7 = e + 1 ∧ px_tr lo (t.1 66 12) t (t.2.1 90 (t.1 66 24).toNat) tl
/-- but for the semicolon at c it is an item -/
def px_pi (K : Nat → Int) (p : Int) (q : ((Int × Int × qx_T) × (px_N × px_N))) (c : Int) : Prop := (K c.toNat = 14 → px_IT K p q (c + 1)) ∧ ∀ q' c', px_IT K p q' c' → q' = q ∧ c' = c + 1 ∧ K c.toNat = 14
def px_A231 (b : Nat → Int) (n : Int) (t : sx_S) (p lo : Int) : Prop := px_K b n (p).toNat ≠ 0 ∧ ∃ q, px_itm t (t.1 66 24).toNat lo (t.1 66 12) q ∧ px_pi (px_K b n) p q (t.1 66 7)
section PXR
variable {b : Nat → Int} {n : Int} {s t u v w r : sx_S} {z x1 : Int}
theorem px_b_up {l : List ((Int × Int × qx_T) × (px_N × px_N))} {p lo : Int} (h : px_b b n t l p lo) (he : rf_ie (t.1 66 24) t u) (hn : rf_nt (t.1 66 12) t u) (hu : rf_tu t u) (e24 : u.1 66 24 = t.1 66 24) (e12 : t.1 66 12 ≤ u.1 66 12) (h8 : u.1 66 8 = 0 → t.1 66 8 = 0) : px_b b n u l p lo := by
  obtain ⟨h1, h2, h3, h4⟩ := h
  refine ⟨?_, by rw [e24]; exact h2, by omega, h4⟩
  rw [e24]
  exact px_its_up h1 he hn h3 hu e12 h8
theorem px_st_up {P P' : Int → Int → Prop} (h : px_st b n t P) (he : rf_ie (t.1 66 24) t u) (hn : rf_nt (t.1 66 12) t u) (hu : rf_tu t u) (e24 : u.1 66 24 = t.1 66 24) (e12 : t.1 66 12 ≤ u.1 66 12) (h8 : u.1 66 8 = 0 → t.1 66 8 = 0) (hP : ∀ p lo, lo ≤ t.1 66 12 → P p lo → P' p lo) : px_st b n u P' := fun _ => by
  obtain ⟨l, p, lo, h1, h2⟩ := h trivial
  exact ⟨l, p, lo, px_b_up h1 he hn hu e24 e12 h8, hP p lo h1.2.2.1 h2⟩
theorem px_st_no {P : Int → Int → Prop} (h : px_st b n t P) (hP : ∀ p lo, P p lo → px_K b n (p).toNat ≠ 0 ∧ ∀ q c, ¬ px_IT (px_K b n) p q c) : ∀ l, ¬ px_TX (px_K b n) l 0 := by
  intro l2 hl
  obtain ⟨l, p, lo, ⟨_, _, _, h4⟩, h2⟩ := h trivial
  obtain ⟨h5, h6⟩ := hP p lo h2
  obtain ⟨l3, _, h7⟩ := (h4 l2).mp hl
  cases l3 with
  | nil => exact h5 h7
  | cons q l3 =>
    obtain ⟨c, h8, _⟩ := h7
    exact h6 _ _ h8
theorem px_st_0 (h24 : t.1 66 24 = 0) (h12 : t.1 66 12 = 0) (h7 : t.1 66 7 = 0) : px_st b n t (px_A0 t) := fun _ => by
  refine ⟨[], 0, 0, ⟨⟨fun _ => 0, Int.le_refl _, rfl, fun k hk => by omega⟩, by rw [h24]; rfl, by omega, fun l2 => ⟨fun q => ⟨l2, rfl, q⟩, ?_⟩⟩, by omega, by omega⟩
  rintro ⟨l3, rfl, q⟩
  exact q
/-- at the end -/
theorem px_st_e (h : px_st b n t (px_A0 t)) (hk : px_rc (px_K b n (t.1 66 7).toNat) = 7) : ∃ l, px_TX (px_K b n) l 0 ∧ px_its t (t.1 66 24) (t.1 66 12) l ∧ l.length = (t.1 66 24).toNat := by
  obtain ⟨l, p, lo, ⟨h1, h2, h3, h4⟩, h5, h6⟩ := h trivial
  subst h5 h6
  refine ⟨l, (h4 l).mpr ⟨[], by rw [List.append_nil], (px_rcK b n _).2.2.2.2.2.2.2.2.2.2.2.2.2.2.mp hk⟩, h1, h2⟩
theorem px_s64 (h : px_st b n t (px_A0 t)) (he : rf_ie (t.1 66 24) t u) (hn : rf_nt (t.1 66 12) t u) (hu : rf_tu t u) (e24 : u.1 66 24 = t.1 66 24) (e12 : t.1 66 12 ≤ u.1 66 12) (h8 : u.1 66 8 = 0 → t.1 66 8 = 0) (u7 : u.1 66 7 = t.1 66 7) (u12 : u.1 66 12 = t.1 66 12) (hk : (px_rc (px_K b n (t.1 66 7).toNat) = 2 ∧ u.2.1 85 (u.1 66 24).toNat = 2) ∨ (px_rc (px_K b n (t.1 66 7).toNat) = 3 ∧ u.2.1 85 (u.1 66 24).toNat = 3)) : px_st b n u (px_A64 b n u) := px_st_up h he hn hu e24 e12 h8 (fun p lo _ ⟨h1, h2⟩ => ⟨by omega, by omega, by
  subst h2
  rcases hk with ⟨k1, k2⟩ | ⟨k1, k2⟩
  · exact Or.inl ⟨(px_rcK b n _).2.1.mp k1, k2⟩
  · exact Or.inr ⟨(px_rcK b n _).2.2.1.mp k1, k2⟩⟩)
theorem px_s154 (h : px_st b n t (px_A0 t)) (he : rf_ie (t.1 66 24) t u) (hn : rf_nt (t.1 66 12) t u) (hu : rf_tu t u) (e24 : u.1 66 24 = t.1 66 24) (e12 : t.1 66 12 ≤ u.1 66 12) (h8 : u.1 66 8 = 0 → t.1 66 8 = 0) (u7 : u.1 66 7 = t.1 66 7) (u12 : u.1 66 12 = t.1 66 12) (hk : px_rc (px_K b n (t.1 66 7).toNat) = x1) (h85 : u.2.1 85 (u.1 66 24).toNat = x1) : px_st b n u (px_A154 b n x1 u) := px_st_up h he hn hu e24 e12 h8 (fun p lo _ ⟨h1, h2⟩ => ⟨by omega, by omega, h85, by rw [h2]; exact hk⟩)
theorem px_s159 (h : px_st b n t (px_A154 b n x1 t)) (hx : x1 = 4) : px_st b n t (px_A159 b n t) := fun _ => by
  obtain ⟨l, p, lo, h1, h2, h3, h4, h5⟩ := h trivial
  exact ⟨l, p, lo, h1, h2, h3, (px_rcK b n _).2.2.2.1.mp (h5.trans hx), h4.trans hx⟩
theorem px_n231 (h : px_st b n t (px_A154 b n x1 t)) (hx : x1 ≠ 2 ∧ x1 ≠ 3 ∧ x1 ≠ 4 ∧ x1 ≠ 7) : px_nr b n u := fun _ => px_st_no h (fun p lo ⟨_, _, _, h5⟩ => ⟨fun q => hx.2.2.2 (h5.symm.trans ((px_rcK b n _).2.2.2.2.2.2.2.2.2.2.2.2.2.2.mpr q)), px_it_a (fun q => hx.1 (h5.symm.trans ((px_rcK b n _).2.1.mpr q))) (fun q => hx.2.1 (h5.symm.trans ((px_rcK b n _).2.2.1.mpr q))) (fun q => hx.2.2.1 (h5.symm.trans ((px_rcK b n _).2.2.2.1.mpr q)))⟩)
theorem px_c34_k {p : Int} (h : px_c34 b n t p) : (px_K b n (p).toNat = 3 ∨ px_K b n (p).toNat = 4) ∧ px_K b n (p).toNat ≠ 0 := by
  rcases h with ⟨h, _⟩ | ⟨h, _⟩ <;> omega
theorem px_s88 (h : px_st b n t (px_A64 b n t)) (d : px_tk b n 1 r w) (he : rf_ie (t.1 66 24) t u) (hn : rf_nt (t.1 66 12) t u) (hu : rf_tu t u) (e24 : u.1 66 24 = t.1 66 24) (e12 : t.1 66 12 ≤ u.1 66 12) (h8 : u.1 66 8 = 0 → t.1 66 8 = 0) (u12 : u.1 66 12 = t.1 66 12) (a85 : u.2.1 85 (t.1 66 24).toNat = t.2.1 85 (t.1 66 24).toNat) (r7 : r.1 66 7 = t.1 66 7 + 1) (w8 : w.1 66 8 = 0) (u7 : u.1 66 7 = w.1 66 7) (a86 : u.2.1 86 (t.1 66 24).toNat = r.1 66 7) : px_st b n u (px_A88 b n u) := px_st_up h he hn hu e24 e12 h8 (fun p lo _ ⟨h1, h2, h3⟩ => by
  subst h2
  obtain ⟨d1, d2, _⟩ := d trivial
  have k := d2 w8
  rw [r7] at k
  refine ⟨by omega, ?_, (px_rcK b n _).1.mp k, by omega, by rw [e24, a86, r7]⟩
  unfold px_c34
  rw [e24, a85]
  exact h3)
theorem px_n88 (h : t.1 66 8 = 0 → px_st b n t (px_A64 b n t)) (hr : px_nr b n t) (d : px_tk b n 1 r w) (r7 : r.1 66 7 = t.1 66 7 + 1) (r8 : r.1 66 8 = t.1 66 8) (u8 : u.1 66 8 = w.1 66 8) : px_nr b n u := fun q => by
  by_cases t8 : t.1 66 8 = 0
  · refine px_st_no (h t8) (fun p lo ⟨_, h2, h3⟩ => ⟨(px_c34_k h3).2, px_it_b (px_c34_k h3).1 (fun e => ?_)⟩)
    subst h2
    rw [← r7] at e
    exact (d trivial).2.2 (r8.trans t8) (fun z => q (u8.trans z)) ((px_rcK b n _).1.mpr e)
  · exact hr t8
theorem px_s113 (h : px_st b n t (px_A88 b n t)) (d : px_tk b n 58 t w) (he : rf_ie (t.1 66 24) t u) (hn : rf_nt (t.1 66 12) t u) (hu : rf_tu t u) (e24 : u.1 66 24 = t.1 66 24) (e12 : t.1 66 12 ≤ u.1 66 12) (h8 : u.1 66 8 = 0 → t.1 66 8 = 0) (u12 : u.1 66 12 = t.1 66 12) (a85 : u.2.1 85 (t.1 66 24).toNat = t.2.1 85 (t.1 66 24).toNat) (a86 : u.2.1 86 (t.1 66 24).toNat = t.2.1 86 (t.1 66 24).toNat) (w8 : w.1 66 8 = 0) (u7 : u.1 66 7 = w.1 66 7) : px_st b n u (px_A113 b n u) := px_st_up h he hn hu e24 e12 h8 (fun p lo _ ⟨h1, h2, h3, h4, h5⟩ => by
  obtain ⟨d1, d2, _⟩ := d trivial
  have k := d2 w8
  rw [h4] at k
  refine ⟨by omega, ?_, h3, (px_rcK b n _).2.2.2.2.2.2.2.2.2.2.1.mp k, by omega, by rw [e24, a86, h5]⟩
  unfold px_c34
  rw [e24, a85]
  exact h2)
theorem px_n113 (h : t.1 66 8 = 0 → px_st b n t (px_A88 b n t)) (hr : px_nr b n t) (d : px_tk b n 58 t w) (u8 : u.1 66 8 = w.1 66 8) : px_nr b n u := fun q => by
  by_cases t8 : t.1 66 8 = 0
  · refine px_st_no (h t8) (fun p lo ⟨_, h2, h3, h4, h5⟩ => ⟨(px_c34_k h2).2, px_it_c (px_c34_k h2).1 (fun e => ?_)⟩)
    rw [← h4] at e
    exact (d trivial).2.2 t8 (fun z => q (u8.trans z)) ((px_rcK b n _).2.2.2.2.2.2.2.2.2.2.1.mpr e)
  · exact hr t8
theorem px_s138 (h : px_st b n t (px_A113 b n t)) (h2 : px_pm (px_R0 b n 0 (t.1 66 7)) t w z) (he : rf_ie (t.1 66 24) t u) (hn : rf_nt (t.1 66 12) t u) (hu : rf_tu t u) (e24 : u.1 66 24 = t.1 66 24) (e12 : t.1 66 12 ≤ u.1 66 12) (h8 : u.1 66 8 = 0 → t.1 66 8 = 0) (u12 : u.1 66 12 = t.1 66 12) (a85 : u.2.1 85 (t.1 66 24).toNat = t.2.1 85 (t.1 66 24).toNat) (a86 : u.2.1 86 (t.1 66 24).toNat = t.2.1 86 (t.1 66 24).toNat) (w8 : w.1 66 8 = 0) (t33 : t.1 66 33 = 0) (hwu : rf_tu w u) (u7 : u.1 66 7 = w.1 66 7) (u33 : u.1 66 33 = w.1 66 33) (a87 : u.2.1 87 (t.1 66 24).toNat = z) : px_st b n u (px_A138 b n u) := px_st_up h he hn hu e24 e12 h8 (fun p lo _ ⟨h1, k2, h3, h4, h5, h6⟩ => by
  obtain ⟨x, d1, d2, d3⟩ := (h2 trivial).1 w8
  rw [h5] at d1
  refine ⟨u12 ▸ h1, ?_, h3, h4, by rw [e24, a86, h6], x, by rw [u7]; exact d1, ?_, by rw [u33, d3, t33, Int.zero_add]⟩
  · unfold px_c34
    rw [e24, a85]
    exact k2
  · rw [e24, a87]
    exact qx_is_up d2 hwu)
theorem px_n138 (h : t.1 66 8 = 0 → px_st b n t (px_A113 b n t)) (hr : px_nr b n t) (h2 : px_pm (px_R0 b n 0 (t.1 66 7)) t w z) (u8 : u.1 66 8 = w.1 66 8) : px_nr b n u := fun q => by
  by_cases t8 : t.1 66 8 = 0
  · refine px_st_no (h t8) (fun p lo ⟨_, h2', h3, h4, h5, h6⟩ => ⟨(px_c34_k h2').2, px_it_d (px_c34_k h2').1 ?_⟩)
    rw [← h5]
    exact (h2 trivial).2 t8 (fun z => q (u8.trans z))
  · exact hr t8
theorem px_s231 (h : px_st b n t (px_A138 b n t)) (he : rf_ie (t.1 66 24) t u) (hn : rf_nt (t.1 66 12) t u) (hu : rf_tu t u) (e24 : u.1 66 24 = t.1 66 24) (e12 : t.1 66 12 ≤ u.1 66 12) (h8 : u.1 66 8 = 0 → t.1 66 8 = 0) (u12 : u.1 66 12 = t.1 66 12) (u7 : u.1 66 7 = t.1 66 7) (a85 : u.2.1 85 (t.1 66 24).toNat = t.2.1 85 (t.1 66 24).toNat) (a86 : u.2.1 86 (t.1 66 24).toNat = t.2.1 86 (t.1 66 24).toNat) (a87 : u.2.1 87 (t.1 66 24).toNat = t.2.1 87 (t.1 66 24).toNat) (a89 : u.2.1 89 (t.1 66 24).toNat = t.1 66 33) : px_st b n u (px_A231 b n u) := px_st_up h he hn hu e24 e12 h8 (fun p lo hlo ⟨h1, h2, h3, h4, h5, x, h6, h7, h8'⟩ => by
  refine ⟨(px_c34_k h2).2, ((px_K b n p.toNat, p + 1, x), .leaf, .leaf), Or.inl ⟨?_, by omega, ?_, ?_, ?_⟩, fun k => ?_, fun q' c' g => ?_⟩
  · rw [e24, a85]
    rcases h2 with ⟨z1, z2⟩ | ⟨z1, z2⟩
    · exact Or.inl ⟨z2, z1⟩
    · exact Or.inr ⟨z2, z1⟩
  · rw [e24, a86]
    exact h5
  · rw [e24, a87]
    exact qx_is_up h7 hu
  · rw [e24, a89]
    exact h8'
  · rw [u7] at k ⊢
    exact px_IT_it.mpr (Or.inl ⟨(px_c34_k h2).1, h3, h4, x, _, h6, k, rfl, rfl⟩)
  · rcases px_IT_it.mp g with ⟨_, _, _, x', e', g1, g2, g3, g4⟩ | ⟨g0, _⟩
    · obtain ⟨rfl, rfl⟩ := px_TY_fun h6 g1
      rw [u7]
      exact ⟨g4, g3, g2⟩
    · have := (px_c34_k h2).1
      omega)
theorem px_s183 (h : px_st b n t (px_A159 b n t)) (h2 : px_pT b n 0 (t.1 66 12) r w z) (he : rf_ie (t.1 66 24) t u) (hn : rf_nt (t.1 66 12) t u) (hu : rf_tu t u) (e24 : u.1 66 24 = t.1 66 24) (e12 : t.1 66 12 ≤ u.1 66 12) (h8 : u.1 66 8 = 0 → t.1 66 8 = 0) (r7 : r.1 66 7 = t.1 66 7 + 1) (a85 : u.2.1 85 (t.1 66 24).toNat = t.2.1 85 (t.1 66 24).toNat) (w8 : w.1 66 8 = 0) (hw : ∀ lo hi y m, px_tr lo hi w y m → px_tr lo hi u y m) (u7 : u.1 66 7 = w.1 66 7) (u12 : u.1 66 12 = w.1 66 12) (a90 : u.2.1 90 (t.1 66 24).toNat = z) (z0 : 0 ≤ z) : px_st b n u (px_A183 b n u) := px_st_up h he hn hu e24 e12 h8 (fun p lo hlo ⟨h1, h2', h3, h4⟩ => by
  subst h1 h2'
  obtain ⟨⟨N, d1, d2⟩, _⟩ := h2 trivial
  refine ⟨h3, by rw [e24, a85]; exact h4, by rw [e24, a90]; exact z0, N, ?_, ?_⟩
  · rw [u7, ← r7]
    exact d2 w8
  · rw [e24, a90, u12]
    exact hw _ _ _ _ d1)
theorem px_n183 (h : px_st b n t (px_A159 b n t)) (h2 : px_pT b n 0 (t.1 66 12) r w z) (r7 : r.1 66 7 = t.1 66 7 + 1) (r8 : r.1 66 8 = 0) (u8 : u.1 66 8 = w.1 66 8) : px_nr b n u := fun q => px_st_no h (fun p lo ⟨_, h2', h3, h4⟩ => ⟨by omega, px_it_f h3 (by
  subst h2'
  rw [← r7]
  exact (h2 trivial).2 r8 (fun z => q (u8.trans z)))⟩)
theorem px_s198 (h : px_st b n t (px_A183 b n t)) (d : px_tk b n 61 t w) (he : rf_ie (t.1 66 24) t u) (hn : rf_nt (t.1 66 12) t u) (hu : rf_tu t u) (e24 : u.1 66 24 = t.1 66 24) (e12 : t.1 66 12 ≤ u.1 66 12) (h8 : u.1 66 8 = 0 → t.1 66 8 = 0) (a85 : u.2.1 85 (t.1 66 24).toNat = t.2.1 85 (t.1 66 24).toNat) (a90 : u.2.1 90 (t.1 66 24).toNat = t.2.1 90 (t.1 66 24).toNat) (w8 : w.1 66 8 = 0) (hw : ∀ lo hi y m, px_tr lo hi t y m → px_tr lo hi u y m) (u7 : u.1 66 7 = w.1 66 7) (u12 : u.1 66 12 = t.1 66 12) : px_st b n u (px_A198 b n u) := px_st_up h he hn hu e24 e12 h8 (fun p lo hlo ⟨h1, h2, h3, tl, h4, h5⟩ => by
  obtain ⟨d1, d2, _⟩ := d trivial
  have t7 : w.1 66 7 = t.1 66 7 + 1 := by
    rcases d1 with z | z
    · exact z.2.2
    · exact absurd (z.1.symm.trans w8) (by decide)
  refine ⟨h1, by rw [e24, a85]; exact h2, by rw [e24, a90]; exact h3, tl, _, h4, (px_rcK b n _).2.2.2.2.2.2.2.2.2.2.2.2.2.1.mp (d2 w8), u7.trans t7, ?_⟩
  rw [e24, a90, u12]
  exact hw _ _ _ _ h5)
theorem px_n198 (h : t.1 66 8 = 0 → px_st b n t (px_A183 b n t)) (hr : px_nr b n t) (d : px_tk b n 61 t w) (u8 : u.1 66 8 = w.1 66 8) : px_nr b n u := fun q => by
  by_cases t8 : t.1 66 8 = 0
  · refine px_st_no (h t8) (fun p lo ⟨h1, h2, h3, tl, h4, h5⟩ => ⟨by omega, px_it_g h1 h4 (fun e => ?_)⟩)
    exact (d trivial).2.2 t8 (fun z => q (u8.trans z)) ((px_rcK b n _).2.2.2.2.2.2.2.2.2.2.2.2.2.1.mpr e)
  · exact hr t8
theorem px_s231e (h : px_st b n t (px_A198 b n t)) (h2 : px_pT b n 0 (t.1 66 12) t w z) (he : rf_ie (t.1 66 24) t u) (hn : rf_nt (t.1 66 12) t u) (hu : rf_tu t u) (e24 : u.1 66 24 = t.1 66 24) (e12 : t.1 66 12 ≤ u.1 66 12) (h8 : u.1 66 8 = 0 → t.1 66 8 = 0) (a85 : u.2.1 85 (t.1 66 24).toNat = t.2.1 85 (t.1 66 24).toNat) (a90 : u.2.1 90 (t.1 66 24).toNat = t.2.1 90 (t.1 66 24).toNat) (w8 : w.1 66 8 = 0) (hw : ∀ lo hi y m, px_tr lo hi w y m → px_tr lo hi u y m) (u7 : u.1 66 7 = w.1 66 7) (u12 : u.1 66 12 = w.1 66 12) (a91 : u.2.1 91 (t.1 66 24).toNat = z) (z0 : 0 ≤ z) : px_st b n u (px_A231 b n u) := px_st_up h he hn hu e24 e12 h8 (fun p lo hlo ⟨h1, k2, h3, tl, e, h4, h5, h6, h7⟩ => by
  obtain ⟨⟨N, d1, d2⟩, _⟩ := h2 trivial
  have d3 := d2 w8
  rw [h6] at d3
  refine ⟨by omega, ((5, p, qx_o), tl, N), Or.inr ⟨?_, rfl, t.1 66 12, ⟨hlo, e12, ?_, ?_⟩, ?_, ?_⟩, fun k => ?_, fun q' c' g => ?_⟩
  · rw [e24, a85]
    exact k2
  · rw [e24, a90]
    exact h3
  · rw [e24, a91]
    exact z0
  · rw [e24, a90]
    exact px_tr_nt h7 hn hu (Int.le_refl _) e12 h8
  · rw [e24, a91, u12]
    exact hw _ _ _ _ d1
  · rw [u7] at k ⊢
    exact px_IT_it.mpr (Or.inr ⟨h1, tl, e, N, _, h4, h5, d3, k, rfl, rfl⟩)
  · rcases px_IT_it.mp g with ⟨g0, _⟩ | ⟨_, t', e', u', c2, g1, g2, g3, g4, g5, g6⟩
    · omega
    · obtain ⟨rfl, rfl⟩ := px_TM_fun h4 g1
      obtain ⟨rfl, rfl⟩ := px_TM_fun d3 g3
      rw [u7]
      exact ⟨g6, g5, g4⟩)
theorem px_n231e (h : t.1 66 8 = 0 → px_st b n t (px_A198 b n t)) (hr : px_nr b n t) (h2 : px_pT b n 0 (t.1 66 12) t w z) (u8 : u.1 66 8 = w.1 66 8) : px_nr b n u := fun q => by
  by_cases t8 : t.1 66 8 = 0
  · refine px_st_no (h t8) (fun p lo ⟨h1, k2, h3, tl, e, h4, h5, h6, h7⟩ => ⟨by omega, px_it_h h1 h4 ?_⟩)
    rw [← h6]
    exact (h2 trivial).2 t8 (fun z => q (u8.trans z))
  · exact hr t8
theorem px_s0 (h : px_st b n t (px_A231 b n t)) (d : px_tk b n 59 t w) (he : rf_ie (t.1 66 24 + 1) t u) (hn : rf_nt (t.1 66 12) t u) (hu : rf_tu t u) (e24 : u.1 66 24 = t.1 66 24 + 1) (h0 : 0 ≤ t.1 66 24) (u12 : u.1 66 12 = t.1 66 12) (h8 : u.1 66 8 = 0 → t.1 66 8 = 0) (w8 : w.1 66 8 = 0) (u7 : u.1 66 7 = w.1 66 7) : px_st b n u (px_A0 u) := fun _ => by
  obtain ⟨l, p, lo, ⟨h1, h2, h3, h4⟩, h5, q, h6, h7, h9⟩ := h trivial
  obtain ⟨d1, d2, _⟩ := d trivial
  have t7 : w.1 66 7 = t.1 66 7 + 1 := by
    rcases d1 with z | z
    · exact z.2.2
    · exact absurd (z.1.symm.trans w8) (by decide)
  have k14 := (px_rcK b n _).2.2.2.2.2.2.2.2.2.2.2.2.1.mp (d2 w8)
  have hIT := h7 k14
  refine ⟨l ++ [q], t.1 66 7 + 1, t.1 66 12, ⟨?_, ?_, by omega, fun l2 => (h4 l2).trans ⟨?_, ?_⟩⟩, u12.symm, (u7.trans t7).symm⟩
  · rw [e24]
    exact px_its_add (px_its_up h1 (fun p k p1 p2 hk => he p k p1 p2 (by omega)) hn h3 hu (by omega) h8) h0 h2 h3 (px_itm_up h6 (fun p p1 p2 => he p _ p1 p2 (by omega)) hn (Int.le_refl _) hu (by omega) h8)
  · rw [List.length_append, h2, e24]
    show (t.1 66 24).toNat + 1 = _
    omega
  · rintro ⟨l3, rfl, g⟩
    cases l3 with
    | nil => exact absurd g h5
    | cons q2 l3 =>
      obtain ⟨c, g1, g2⟩ := g
      obtain ⟨rfl, rfl, _⟩ := h9 _ _ g1
      exact ⟨l3, by rw [List.append_assoc]; rfl, g2⟩
  · rintro ⟨l3, rfl, g⟩
    exact ⟨q :: l3, by rw [List.append_assoc]; rfl, _, hIT, g⟩
theorem px_n0 (h : t.1 66 8 = 0 → px_st b n t (px_A231 b n t)) (hr : px_nr b n t) (d : px_tk b n 59 t w) (u8 : u.1 66 8 = w.1 66 8) : px_nr b n u := fun q => by
  by_cases t8 : t.1 66 8 = 0
  · refine px_st_no (h t8) (fun p lo ⟨h5, q', h6, h7, h9⟩ => ⟨h5, fun q2 c g => ?_⟩)
    obtain ⟨_, _, g3⟩ := h9 _ _ g
    exact (d trivial).2.2 t8 (fun z => q (u8.trans z)) ((px_rcK b n _).2.2.2.2.2.2.2.2.2.2.2.2.1.mpr g3)
  · exact hr t8
theorem px_nr_8 (hr : px_nr b n t) (h : u.1 66 8 ≠ 0 → t.1 66 8 ≠ 0) : px_nr b n u := fun q => hr (h q)
end PXR
