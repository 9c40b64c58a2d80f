/-! ===== the reference: sums over the unknowns, ways, names ===== -/
def rf_wt (s : sx_S) (g : rf_Gh) (x : Nat) : Nat := if s.2.1 111 x = 0 then 200 + 6 * (1 + (s.2.1 108 x).toNat) else (rf_wh (g.1 (x : Int))).1
def rf_ph (s : sx_S) (g : rf_Gh) : Nat := rf_sum (rf_wt s g) (s.1 66 61).toNat
def rf_q1 (s : sx_S) (x : Nat) : Nat := if s.2.1 111 x = 0 then 1 + (s.2.1 108 x).toNat else 0
def rf_qu (s : sx_S) : Nat := rf_sum (rf_q1 s) (s.1 66 61).toNat
/-- there is room for all that may still be solved -/
def rf_RM (e : Int) (s : sx_S) : Prop := s.1 66 50 + (rf_qu s : Int) ≤ 59900 ∧ s.1 66 56 + 12 * (rf_qu s : Int) ≤ 119000 + e ∧ s.1 66 61 + (rf_qu s : Int) ≤ 2900 ∧ s.1 66 64 + 4 * (rf_qu s : Int) ≤ 19000 ∧ s.1 66 70 + 2 * (rf_qu s : Int) ≤ 100 ∧ 0 ≤ s.1 66 70
theorem rf_qu_same {s t : sx_S} (e61 : t.1 66 61 = s.1 66 61) (e : ∀ j : Nat, (j : Int) < s.1 66 61 → t.2.1 111 j = s.2.1 111 j ∧ t.2.1 108 j = s.2.1 108 j) : rf_qu t = rf_qu s := by
  unfold rf_qu
  rw [e61]
  refine rf_sum_congr (fun j hj => ?_)
  obtain ⟨e1, e2⟩ := e j (by omega)
  unfold rf_q1
  rw [e1, e2]
theorem rf_ph_same {s t : sx_S} {g g' : rf_Gh} (e61 : t.1 66 61 = s.1 66 61) (e : ∀ j : Nat, (j : Int) < s.1 66 61 → t.2.1 111 j = s.2.1 111 j ∧ t.2.1 108 j = s.2.1 108 j) (hg : ∀ j : Nat, (j : Int) < s.1 66 61 → s.2.1 111 j ≠ 0 → g'.1 (j : Int) = g.1 (j : Int)) : rf_ph t g' = rf_ph s g := by
  unfold rf_ph
  rw [e61]
  refine rf_sum_congr (fun j hj => ?_)
  obtain ⟨e1, e2⟩ := e j (by omega)
  unfold rf_wt
  rw [e1, e2]
  by_cases c : s.2.1 111 j = 0
  · rw [if_pos c, if_pos c]
  · rw [if_neg c, if_neg c, hg j (by omega) c]
theorem rf_sum_s (f : Nat → Nat) (n : Nat) : rf_sum f (n + 1) = rf_sum f n + f n := rfl
theorem rf_qu_new {s t : sx_S} (r61 : 0 ≤ s.1 66 61) (e61 : t.1 66 61 = s.1 66 61 + 1) (e : ∀ j : Nat, (j : Int) < s.1 66 61 → t.2.1 111 j = s.2.1 111 j ∧ t.2.1 108 j = s.2.1 108 j) (eh : t.2.1 111 (s.1 66 61).toNat = 0) : rf_qu t = rf_qu s + (1 + (rf_aa t (s.1 66 61)).toNat) := by
  unfold rf_qu
  rw [show (t.1 66 61).toNat = (s.1 66 61).toNat + 1 by omega, rf_sum_s]
  have h1 : rf_sum (rf_q1 t) (s.1 66 61).toNat = rf_sum (rf_q1 s) (s.1 66 61).toNat := rf_sum_congr (fun j hj => by
    obtain ⟨e1, e2⟩ := e j (by omega)
    unfold rf_q1
    rw [e1, e2])
  have h2 : rf_q1 t (s.1 66 61).toNat = 1 + (rf_aa t (s.1 66 61)).toNat := by
    unfold rf_q1
    rw [if_pos eh]
    rfl
  rw [h1, h2]
theorem rf_ph_new {s t : sx_S} {g g' : rf_Gh} (r61 : 0 ≤ s.1 66 61) (e61 : t.1 66 61 = s.1 66 61 + 1) (e : ∀ j : Nat, (j : Int) < s.1 66 61 → t.2.1 111 j = s.2.1 111 j ∧ t.2.1 108 j = s.2.1 108 j) (eh : t.2.1 111 (s.1 66 61).toNat = 0) (hg : g'.1 = g.1) : rf_ph t g' = rf_ph s g + (200 + 6 * (1 + (rf_aa t (s.1 66 61)).toNat)) := by
  unfold rf_ph
  rw [show (t.1 66 61).toNat = (s.1 66 61).toNat + 1 by omega, rf_sum_s]
  have h1 : rf_sum (rf_wt t g') (s.1 66 61).toNat = rf_sum (rf_wt s g) (s.1 66 61).toNat := rf_sum_congr (fun j hj => by
    obtain ⟨e1, e2⟩ := e j (by omega)
    unfold rf_wt
    rw [e1, e2, hg])
  have h2 : rf_wt t g' (s.1 66 61).toNat = 200 + 6 * (1 + (rf_aa t (s.1 66 61)).toNat) := by
    unfold rf_wt
    rw [if_pos eh]
    rfl
  rw [h1, h2]
theorem rf_qu_set {s t : sx_S} {x : Int} (hx0 : 0 ≤ x) (hxm : x < s.1 66 61) (e61 : t.1 66 61 = s.1 66 61) (hs0 : s.2.1 111 x.toNat = 0) (ht0 : t.2.1 111 x.toNat ≠ 0) (e : ∀ j : Nat, (j : Int) < s.1 66 61 → (j : Int) ≠ x → t.2.1 111 j = s.2.1 111 j ∧ t.2.1 108 j = s.2.1 108 j) : rf_qu t + (1 + (rf_aa s x).toNat) = rf_qu s := by
  unfold rf_qu
  rw [e61]
  have h1 : ∀ j, j < (s.1 66 61).toNat → (if j = x.toNat then 0 else rf_q1 s j) = rf_q1 t j := fun j hj => by
    by_cases c : j = x.toNat
    · rw [if_pos c, c]
      unfold rf_q1
      rw [if_neg ht0]
    · rw [if_neg c]
      obtain ⟨e1, e2⟩ := e j (by omega) (by omega)
      unfold rf_q1
      rw [e1, e2]
  rw [← rf_sum_congr h1]
  have h2 := rf_sum_upd (f := fun j => if j = x.toNat then 0 else rf_q1 s j) (g := rf_q1 s) (x := x.toNat) (n := (s.1 66 61).toNat) (by omega) (fun j hj => if_neg hj)
  have h3 : rf_q1 s x.toNat = 1 + (rf_aa s x).toNat := by
    unfold rf_q1
    rw [if_pos hs0]
    rfl
  try dsimp only at h2
  rw [if_pos rfl] at h2
  omega
theorem rf_ph_set {s t : sx_S} {g g' : rf_Gh} {x : Int} (hx0 : 0 ≤ x) (hxm : x < s.1 66 61) (e61 : t.1 66 61 = s.1 66 61) (hs0 : s.2.1 111 x.toNat = 0) (ht0 : t.2.1 111 x.toNat ≠ 0) (e : ∀ j : Nat, (j : Int) < s.1 66 61 → (j : Int) ≠ x → t.2.1 111 j = s.2.1 111 j ∧ t.2.1 108 j = s.2.1 108 j) (hg : ∀ z, z ≠ x → g'.1 z = g.1 z) : rf_ph t g' + (200 + 6 * (1 + (rf_aa s x).toNat)) = rf_ph s g + (rf_wh (g'.1 x)).1 := by
  unfold rf_ph
  rw [e61]
  have h1 : ∀ j, j < (s.1 66 61).toNat → (if j = x.toNat then (rf_wh (g'.1 x)).1 else rf_wt s g j) = rf_wt t g' j := fun j hj => by
    by_cases c : j = x.toNat
    · rw [if_pos c, c]
      unfold rf_wt
      rw [if_neg ht0, Int.toNat_of_nonneg hx0]
    · rw [if_neg c]
      obtain ⟨e1, e2⟩ := e j (by omega) (by omega)
      unfold rf_wt
      rw [e1, e2, hg _ (by omega)]
  rw [← rf_sum_congr h1]
  have h2 := rf_sum_upd (f := fun j => if j = x.toNat then (rf_wh (g'.1 x)).1 else rf_wt s g j) (g := rf_wt s g) (x := x.toNat) (n := (s.1 66 61).toNat) (by omega) (fun j hj => if_neg hj)
  have h3 : rf_wt s g x.toNat = 200 + 6 * (1 + (rf_aa s x).toNat) := by
    unfold rf_wt
    rw [if_pos hs0]
    rfl
  try dsimp only at h2
  rw [if_pos rfl] at h2
  omega
theorem rf_lsum_mono {f g : Nat → Nat} : ∀ {l : List Nat}, (∀ x ∈ l, f x ≤ g x) → rf_lsum f l ≤ rf_lsum g l
  | [], _ => Nat.le_refl _
  | x :: l, h => by
    have h1 := h x List.mem_cons_self
    have h2 := rf_lsum_mono (l := l) (fun y hy => h y (List.mem_cons_of_mem _ hy))
    show f x + rf_lsum f l ≤ g x + rf_lsum g l
    omega
/-! ways: the unknowns that were entered; O: the unknowns of what is left, h: its height, p: what is left of the way -/
def rf_wy (s : sx_S) (g : rf_Gh) (W : List Nat) (O : Int → Prop) (h p : Nat) : Prop := W.Nodup ∧ (∀ x ∈ W, (x : Int) < s.1 66 61 ∧ s.2.1 111 x ≠ 0 ∧ ∀ z, O z → rf_rc (rf_Ed s g) (x : Int) z) ∧ 1150 + h ≤ p + rf_lsum (fun x => (rf_wh (g.1 (x : Int))).1) W
theorem rf_wy_le {s : sx_S} {g : rf_Gh} {W : List Nat} {O O' : Int → Prop} {h h' p p' : Nat} (hO : ∀ z, O' z → O z) (hh : h' + p ≤ h + p') (k : rf_wy s g W O h p) : rf_wy s g W O' h' p' := ⟨k.1, fun x hx => ⟨(k.2.1 x hx).1, (k.2.1 x hx).2.1, fun z hz => (k.2.1 x hx).2.2 z (hO z hz)⟩, by have := k.2.2; omega⟩
theorem rf_wy_up {nb ib : Int} {s t : sx_S} {g g' : rf_Gh} (h : rf_EX nb ib s t) (hg : rf_EG s g g') {W : List Nat} {O : Int → Prop} {a p : Nat} (k : rf_wy s g W O a p) : rf_wy t g' W O a p := by
  obtain ⟨k1, k2, k3⟩ := k
  have e8 := h.1.2.2.2.1
  refine ⟨k1, fun x hx => ?_, ?_⟩
  · obtain ⟨c1, c2, c3⟩ := k2 x hx
    have e := ((h.2 x).2.2.2.1 c1).2.2 c2
    exact ⟨by omega, by rw [e.1]; exact c2, fun z hz => rf_rc_up h hg (c3 z hz)⟩
  · have := rf_lsum_mono (f := fun x => (rf_wh (g.1 (x : Int))).1) (g := fun x => (rf_wh (g'.1 (x : Int))).1) (l := W) (fun x hx => by
      obtain ⟨c1, c2, _⟩ := k2 x hx
      try dsimp only
      rw [((hg (x : Int) (by omega) c1).1 (by rw [Int.toNat_natCast]; exact c2)).1]
      exact Nat.le_refl _)
    omega
theorem rf_wy_pos {s : sx_S} {g : rf_Gh} {W : List Nat} {O : Int → Prop} {a p : Nat} (k : rf_wy s g W O a p) (hp : rf_ph s g ≤ 1150) : a ≤ p := by
  obtain ⟨k1, k2, k3⟩ := k
  have h1 := rf_lsum_mono (f := fun x => (rf_wh (g.1 (x : Int))).1) (g := rf_wt s g) (l := W) (fun x hx => by
    obtain ⟨c1, c2, _⟩ := k2 x hx
    unfold rf_wt
    rw [if_neg c2]
    exact Nat.le_refl _)
  have h2 := rf_lsum_le (rf_wt s g) (s.1 66 61).toNat W k1 (fun x hx => by have := (k2 x hx).1; omega)
  unfold rf_ph at hp
  omega
theorem rf_wy_in {nb ib : Int} {s : sx_S} {g : rf_Gh} {W : List Nat} {O : Int → Prop} {a p : Nat} {x : Int} (k : rf_wy s g W O a p) (hM : rf_MI nb ib s g) (hp : rf_ph s g ≤ 1150) (hO : O x) (ha : 5 ≤ a) (h0 : 0 ≤ x) (hm : x < s.1 66 61) (hs : s.2.1 111 x.toNat ≠ 0) : rf_wy s g (x.toNat :: W) (rf_oc (g.1 x)).1 (rf_wh (g.1 x)).1 (p - 5) := by
  have hap := rf_wy_pos k hp
  obtain ⟨k1, k2, k3⟩ := k
  have ex : ((x.toNat : Nat) : Int) = x := Int.toNat_of_nonneg h0
  refine ⟨List.nodup_cons.mpr ⟨fun hx => ?_, k1⟩, fun y hy => ?_, ?_⟩
  · have := (k2 _ hx).2.2 x hO
    rw [ex] at this
    exact hM.2 x this
  · rcases List.mem_cons.mp hy with rfl | hy
    · refine ⟨by omega, hs, fun z hz => ?_⟩
      rw [ex]
      exact .single ⟨⟨h0, hm⟩, hs, hz⟩
    · obtain ⟨c1, c2, c3⟩ := k2 y hy
      exact ⟨c1, c2, fun z hz => .tail (c3 x hO) ⟨⟨h0, hm⟩, hs, hz⟩⟩
  · show 1150 + (rf_wh (g.1 x)).1 ≤ p - 5 + ((rf_wh (g.1 ((x.toNat : Nat) : Int))).1 + rf_lsum (fun x => (rf_wh (g.1 (x : Int))).1) W)
    rw [ex]
    omega
/-! names -/
def rf_NM (s : sx_S) (N : Int → rf_T → Prop) (y : rf_Y) (i : Int) : Prop := rf_bs s y i ∧ rf_bd (s.1 66 58) y ∧ rf_ok (rf_vb (s.1 66 58) s) N y ∧ (rf_dp y : Int) ≤ s.1 66 70
theorem rf_NM_up {s t : sx_S} (h : rf_EX (s.1 66 71) (s.1 66 58) s t) (hn : s.1 66 71 ≤ t.1 66 71) (hi : s.1 66 58 ≤ t.1 66 58) {N : Int → rf_T → Prop} {y : rf_Y} {i : Int} (k : rf_NM s N y i) : rf_NM t N y i := by
  obtain ⟨k1, k2, k3, k4⟩ := k
  have e8 := h.1.2.2.2.2.2
  exact ⟨rf_by_mono (fun j hj => (h.2 j).2.2.2.2.2 hj) hn k1, rf_bd_mono hi k2, rf_okV_up h hi k2 k3, by omega⟩
theorem rf_NM_nil {s : sx_S} (h : 0 ≤ s.1 66 70) : rf_NM s (fun _ _ => False) .leaf (-1) := ⟨rfl, trivial, rf_ok_nil, h⟩
/-- a variable is called by a new one -/
theorem rf_NM_one {t : sx_S} {N : Int → rf_T → Prop} (hN : ∀ v x, N v x → v < 0) {y : rf_Y} {i z f v : Int} {A : rf_T} (hz : 0 ≤ z ∧ z < t.1 66 71) (hm : rf_nm t z f v i) (hf : rf_vb (t.1 66 58) t f A) (hv : rf_vb (t.1 66 58) t v A) (k : rf_NM t N y i) : rf_NM t N (rf_one f v y) z := by
  obtain ⟨k1, k2, k3, k4⟩ := k
  have f0 := hf.1
  have v0 := hv.1
  refine ⟨rf_bs_one hz hm (by omega) k1, ⟨⟨f0.2, v0.1, v0.2⟩, k2⟩, rf_ok_one k3 (fun u q => ?_), k4⟩
  rcases q with q | q
  · rw [← rf_vb_inj hf q]
    exact hv
  · have := hN _ _ q
    omega
theorem rf_bh_bd {b : Int} {a c : rf_Y} (ha : rf_bd b a) (hc : rf_bd b c) : rf_bd b (rf_bh a c) := by
  cases a with
  | leaf => exact hc
  | inner n k u l r =>
    cases c with
    | leaf => exact ha
    | inner n' k' u' l' r' => exact ⟨ha, hc⟩
theorem rf_Nx_neg {s : sx_S} {x : Int} : ∀ v T, rf_Nx s x v T → v < 0 := fun _ _ h => h.1
/-- what is known of a node before an unknown that is entered -/
theorem rf_NM_enter {nb ib ib2 : Int} {s t : sx_S} {g : rf_Gh} {N : Int → rf_T → Prop} {y : rf_Y} {i n z : Int} {k x : Int} {u : rf_T} (hM : rf_SV nb ib s g x) (hi : ib ≤ s.1 66 58) (hib2 : ib2 ≤ s.1 66 58) (hH : rf_Hn ib2 s N n.toNat k x u) (hk : k = 3) (hy : rf_NM s N y i) (h : rf_EX (s.1 66 71) (s.1 66 58) s t) (hn : s.1 66 71 ≤ t.1 66 71) (hi2 : t.1 66 58 = s.1 66 58) (hz : rf_bs t (rf_bh (g.2.1 x) (rf_row (rf_fm s x) (rf_vo s y n) (rf_aa s x).toNat)) z) : rf_NM t (rf_Nx s x) (rf_bh (g.2.1 x) (rf_row (rf_fm s x) (rf_vo s y n) (rf_aa s x).toNat)) z := by
  obtain ⟨a, ⟨b1, b2, b3, b4⟩, ⟨⟨c1, c2⟩, c3, c4, c5⟩, d1, d2⟩ := hM
  obtain ⟨h1, h2, h3, h4⟩ := rf_Hn_3 hH hk
  obtain ⟨y1, y2, y3, y4⟩ := hy
  have e8 := h.1.2.2.2.2.2
  have hvo : ∀ q : Nat, (q : Int) < rf_aa s x → ∃ T, rf_py s x q T ∧ rf_vb (s.1 66 58) s (rf_vo s y n q) T := fun q hq => by
    obtain ⟨T, t1, t2⟩ := h4 q hq
    exact ⟨T, t1, y3 _ T (t2.elim (fun w => Or.inl (rf_vb_le hib2 w)) Or.inr)⟩
  have hrow : rf_ok (rf_vb (s.1 66 58) s) (fun _ _ => False) (rf_row (rf_fm s x) (rf_vo s y n) (rf_aa s x).toNat) := by
    refine rf_row_ok (fun q hq w hw => ?_) (fun _ _ q => q.elim)
    have hq2 : (q : Int) < rf_aa s x := by omega
    have hw2 := hw.elim id (fun q => q.elim)
    obtain ⟨T, t1, t2⟩ := hvo q hq2
    rcases c3 q hq2 with ⟨T', r1, r2⟩ | r
    · rw [rf_vb_inj hw2 r2, rf_py_inj r1 t1]
      exact t2
    · have := hw2.1.1
      omega
  have hYs : rf_ok (rf_vb (s.1 66 58) s) (fun _ _ => False) (g.2.1 x) := rf_okV_up (rf_EX_refl nb ib s) hi b2 b3
  have hbd : rf_bd (s.1 66 58) (rf_bh (g.2.1 x) (rf_row (rf_fm s x) (rf_vo s y n) (rf_aa s x).toNat)) := by
    refine rf_bh_bd (rf_bd_mono hi b2) (rf_row_bd (fun q hq => ?_))
    have hq2 : (q : Int) < rf_aa s x := by omega
    obtain ⟨T, _, t2⟩ := hvo q hq2
    refine ⟨?_, t2.1⟩
    rcases c3 q hq2 with ⟨T', _, r2⟩ | r
    · have := r2.1
      omega
    · have := t2.1
      omega
  have hok : rf_ok (rf_vb (s.1 66 58) s) (rf_Nx s x) (rf_bh (g.2.1 x) (rf_row (rf_fm s x) (rf_vo s y n) (rf_aa s x).toNat)) := by
    intro v T q
    rw [rf_bh_look]
    rcases q with q | ⟨q0, q, q1, q2, q3⟩
    · exact hrow _ T (Or.inl (hYs v T (Or.inl q)))
    · have hl : g.2.1 x = .leaf := c4.elim (fun z => z.1) (fun w => by
        have := w q q1
        omega)
      rw [hl]
      show rf_vb _ s (rf_look _ v) T
      rw [q2, rf_row_look (fun a b ha hb => c5 a b (by omega) (by omega)) (by omega)]
      obtain ⟨T', t1, t2⟩ := hvo q q1
      rw [rf_py_inj q3 t1]
      exact t2
  have hdp := rf_bh_dp (g.2.1 x) (rf_row (rf_fm s x) (rf_vo s y n) (rf_aa s x).toNat)
  rw [rf_row_dp] at hdp
  refine ⟨hz, by rw [hi2]; exact hbd, ?_, by omega⟩
  exact rf_okV_up h (by omega) hbd hok
/-- what a free variable of the body is called -/
theorem rf_en_look {nb ib : Int} {s : sx_S} {g : rf_Gh} {y : rf_Y} {n x : Int} (hM : rf_MX nb ib s g x) (hs : s.2.1 111 x.toNat ≠ 0) {v : Int} (hv : (rf_fo (rf_Wd s g.2.2) (g.1 x)).1 v) : ∃ q : Nat, g.2.2 x q ∧ rf_look (g.2.1 x) v = rf_fm s x q ∧ rf_look (rf_bh (g.2.1 x) (rf_row (rf_fm s x) (rf_vo s y n) (rf_aa s x).toNat)) v = rf_look y (rf_rv1 s n.toNat q) := by
  obtain ⟨k1, k2, k3, k4⟩ := hM
  obtain ⟨a, b, ⟨_, _, _, c5⟩, d1, d2⟩ := k4 hs
  obtain ⟨q, q1, q2⟩ := d1 v hv
  have q3 := k2 q q1
  refine ⟨q, q1, q2, ?_⟩
  rw [rf_bh_look, q2, rf_row_look (fun a b ha hb => c5 a b (by omega) (by omega)) (by omega)]
  rfl
def rf_ij (F : Int → Prop) (y : rf_Y) : Prop := ∀ v w, F v → F w → rf_look y v = rf_look y w → v = w
theorem rf_ij_le {F F' : Int → Prop} {y : rf_Y} (h : ∀ v, F' v → F v) (k : rf_ij F y) : rf_ij F' y := fun v w a b => k v w (h v a) (h w b)
theorem rf_ij_in {nb ib : Int} {s : sx_S} {g : rf_Gh} {y : rf_Y} {n x : Int} (hM : rf_MX nb ib s g x) (hs : s.2.1 111 x.toNat ≠ 0) (hd : rf_di s g.2.2 n.toNat x) (k : rf_ij (rf_Wd s g.2.2 n.toNat x) y) : rf_ij (rf_fo (rf_Wd s g.2.2) (g.1 x)).1 (rf_bh (g.2.1 x) (rf_row (rf_fm s x) (rf_vo s y n) (rf_aa s x).toNat)) := by
  intro v w hv hw e
  obtain ⟨p, p1, p2, p3⟩ := rf_en_look (y := y) (n := n) hM hs hv
  obtain ⟨q, q1, q2, q3⟩ := rf_en_look (y := y) (n := n) hM hs hw
  rw [p3, q3] at e
  have e2 := hd p q p1 q1 (k _ _ ⟨p, p1, rfl⟩ ⟨q, q1, rfl⟩ e)
  subst e2
  exact (hM.2.2.2 hs).2.2.2.2 v w hv hw (by rw [p2, q2])
theorem rf_ij_one {F F' : Int → Prop} {y : rf_Y} {f v : Int} (hF : ∀ w, F' w → w ≠ f → F w) (hv : ∀ w, F w → rf_look y w ≠ v) (k : rf_ij F y) : rf_ij F' (rf_one f v y) := by
  intro a b ha hb e
  have e2 : (if f = a then v else rf_look y a) = (if f = b then v else rf_look y b) := e
  by_cases ca : f = a
  · by_cases cb : f = b
    · omega
    · rw [if_pos ca, if_neg cb] at e2
      exact absurd e2.symm (hv b (hF b hb (fun q => cb q.symm)))
  · by_cases cb : f = b
    · rw [if_neg ca, if_pos cb] at e2
      exact absurd e2 (hv a (hF a ha (fun q => ca q.symm)))
    · rw [if_neg ca, if_neg cb] at e2
      exact k a b (hF a ha (fun q => ca q.symm)) (hF b hb (fun q => cb q.symm)) e2
