/-! ===== the reference: load, exactly: what holds on the way ===== -/
def px_LI (l : List ((Int × Int × qx_T) × (px_N × px_N))) (n : Int) (c : Nat) (s u : sx_S) (x2 lo : Int) : Prop := (cx_I u ∧ rf_dk s u) ∧ (u.1 66 1 = 0 ∧ u.1 66 8 = 0 ∧ u.1 66 34 = 0 ∧ u.1 66 37 = 0 ∧ u.1 66 78 = 0) ∧ (u.1 66 40 = 0 ∨ (0 ≤ u.1 66 41 ∧ u.1 66 41 ≤ 241)) ∧ (u.1 66 40 = 0 → rf_CK u ∧ rf_ES u) ∧ (0 ≤ lo ∧ lo ≤ u.1 66 12 ∧ u.1 66 12 ≤ n) ∧ (2 ≤ u.1 66 9 ∧ u.1 66 9 + (u.1 66 12 - lo) ≤ 2 + 2 * n) ∧ (u.1 66 50 + 90 * (u.1 66 12 - lo) ≤ 90 * n ∧ u.1 66 58 + 45 * (u.1 66 12 - lo) ≤ 1 + 45 * n ∧ u.1 66 56 + 45 * (u.1 66 12 - lo) ≤ 45 * n) ∧ (c ≤ u.2.2.2 ∧ (u.2.2.2 : Int) + 9 * (u.1 66 12 - lo) ≤ (c : Int) + 9 * n) ∧ 1 ≤ u.1 66 58 ∧ ∃ L : Nat → Int, L x2.toNat = lo ∧ ∀ k : Nat, x2 ≤ (k : Int) → (k : Int) < u.1 66 24 → (∃ q, l[k]? = some q ∧ px_itm u k (L k) (L (k + 1)) q) ∧ L (k + 1) ≤ u.1 66 12

def px_LS (bb : Nat → Int) (n mt : Int) (l : List ((Int × Int × qx_T) × (px_N × px_N))) (s : sx_S) : Prop := (∀ k : Nat, (k : Int) < n → bb k = s.2.1 67 k) ∧ mt ≤ 242 ∧ px_TX (px_K bb n) l 0 ∧ ∀ q ∈ l, px_qi mt q
/-- how many items of a sort -/
def px_c3 (k : Int) : List ((Int × Int × qx_T) × (px_N × px_N)) → Nat
  | [] => 0
  | q :: l => (if q.1.1 = k then 1 else 0) + px_c3 k l
def px_an (bb : Nat → Int) (n z : Int) : Prop := (z = -2 ∧ ∀ l, ¬ px_TX (px_K bb n) l 0) ∨ (∃ l, px_TX (px_K bb n) l 0 ∧ ((z = 0 ∧ px_ck (px_SN bb n) l [] [] 0) ∨ (z = -3 ∧ ¬ px_ck (px_SN bb n) l [] [] 0)))
/-- load's answer, whether there is a text, how many of each -/
def px_A5 (bb : Nat → Int) (n z h c m e : Int) : Prop := (z = -2 ∧ (∀ l, ¬ px_TX (px_K bb n) l 0) ∧ h = 0) ∨ (∃ l, px_TX (px_K bb n) l 0 ∧ ((z = 0 ∧ px_ck (px_SN bb n) l [] [] 0 ∧ h = 1 ∧ c = (px_c3 3 l : Int) ∧ m = (px_c3 4 l : Int) ∧ e = (px_c3 5 l : Int)) ∨ (z = -3 ∧ ¬ px_ck (px_SN bb n) l [] [] 0 ∧ h = 0)))
theorem px_A5_cg {bb c' : Nat → Int} {n z h c m e : Int} (h' : ∀ k : Nat, (k : Int) < n → bb k = c' k) (hn : 0 ≤ n) (g : px_A5 bb n z h c m e) : px_A5 c' n z h c m e := by
  have e1 := px_K_cg h'
  have e2 : px_SN bb n = px_SN c' n := by
    funext i j
    exact propext (px_sn_cg h' i.toNat j.toNat hn)
  unfold px_A5 at g ⊢
  rw [← e1, ← e2]
  exact g
theorem px_A5_no {bb : Nat → Int} {n z h c m e : Int} (g : px_an bb n z) (hz : z ≠ 0) (hh : h = 0) : px_A5 bb n z h c m e := by
  rcases g with ⟨g1, g2⟩ | ⟨l, g1, ⟨g2, _⟩ | ⟨g2, g3⟩⟩
  · exact Or.inl ⟨g1, g2, hh⟩
  · exact absurd g2 hz
  · exact Or.inr ⟨l, g1, Or.inr ⟨g2, g3, hh⟩⟩
theorem px_an_cg {bb c : Nat → Int} {n z : Int} (h : ∀ k : Nat, (k : Int) < n → bb k = c k) (hn : 0 ≤ n) (g : px_an bb n z) : px_an c n z := by
  have e1 := px_K_cg h
  have e2 : px_SN bb n = px_SN c n := by
    funext i j
    exact propext (px_sn_cg h i.toNat j.toNat hn)
  unfold px_an at g ⊢
  rw [← e1, ← e2]
  exact g
theorem px_ps_lv {b : Nat → Int} {n : Int} (hn : 0 ≤ n) : ∀ {i : Nat}, px_lv b n i → (i : Int) ≤ px_ps b n i
  | 0, _ => px_ps_ge 0
  | i + 1, h => by
    have ih := px_ps_lv hn (i := i) (fun j hj => h j (by omega))
    have hk := (h i (by omega)).1
    have hlt : px_ps b n i < n := by
      by_cases q : px_ps b n i < n
      · exact q
      · exact absurd (px_kde (by omega)).1 hk
    have h1 := px_en_gt (b := b) hlt
    have h2 : px_en b n (px_ps b n i) ≤ px_ps b n (i + 1) := px_ru_ge
    push_cast
    omega
theorem px_RE_te {b : Nat → Int} {n m : Int} {t : sx_S} (h : px_RE b n m t) (hn : 0 ≤ n) : rf_te (t.2.1 69) (m - 1) ∧ m - 1 ≤ n ∧ px_RQ b n t := by
  obtain ⟨⟨m1, m2⟩, h2, h3, h4⟩ := h
  have hle := px_ps_lv hn h3
  have hps := px_ps_le (b := b) hn (m - 1).toNat
  have ha := (h2 (m - 1).toNat (by omega)).1
  have hr := px_rc_k (px_K b n (m - 1).toNat)
  refine ⟨⟨by omega, by omega, fun j hj => ?_, ?_⟩, by omega, fun i hi => ?_⟩
  · have h5 := h3 j (by omega)
    have h6 := (h2 j (by omega)).1
    have h7 := px_rc_k (px_K b n j)
    rw [h6]
    exact ⟨fun q => h5.1 (h7.2.2.1 q), fun q => h5.2 (h7.2.2.2 q)⟩
  · rw [ha]
    rcases h4 with q | q
    · exact Or.inl (hr.1 q)
    · exact Or.inr (hr.2.1 q)
  · refine (h2 i ?_).1
    by_cases q : (i : Int) < m
    · exact q
    · have := hi (m - 1).toNat (by omega)
      rcases h4 with z | z
      · exact absurd z this.1
      · exact absurd z this.2
theorem px_itm_lo {s : sx_S} {k : Nat} {lo lo' hi : Int} {q : ((Int × Int × qx_T) × (px_N × px_N))} (h : px_itm s k lo hi q) (h0 : lo' ≤ lo) : px_itm s k lo' hi q := by
  rcases h with ⟨a, b, c⟩ | ⟨a, a2, mid, b, c, d⟩
  · exact Or.inl ⟨a, by omega, c⟩
  · exact Or.inr ⟨a, a2, mid, ⟨by omega, by omega, by omega, by omega⟩, px_tr_wk c h0 (Int.le_refl _), d⟩
theorem px_tr_up2 {s t : sx_S} {lo hi z : Int} {m : px_N} (ha : ∀ p, 74 ≤ p → p ≤ 81 → t.2.1 p = s.2.1 p) (h8 : t.1 66 8 = s.1 66 8) (h12 : t.1 66 12 = s.1 66 12) (hu : rf_tu s t) (k : px_tr lo hi s z m) : px_tr lo hi t z m := by
  obtain ⟨n, k1, k2, k3, k4, k5⟩ := k
  refine ⟨n, ?_, k2, k3, k4, fun q => px_is_up hu (fun j _ => ⟨by rw [ha 76 (by omega) (by omega)], by rw [ha 78 (by omega) (by omega)]⟩) (k5 (by omega))⟩
  unfold rf_rt at k1 ⊢
  rw [ha 74 (by omega) (by omega), ha 75 (by omega) (by omega), ha 80 (by omega) (by omega), ha 81 (by omega) (by omega), h12]
  exact k1
theorem px_itm_up2 {s t : sx_S} {k : Nat} {lo hi : Int} {q : ((Int × Int × qx_T) × (px_N × px_N))} (ha : ∀ p, 74 ≤ p → p ≤ 81 → t.2.1 p = s.2.1 p) (hb : ∀ p, 85 ≤ p → p ≤ 92 → t.2.1 p = s.2.1 p) (h8 : t.1 66 8 = s.1 66 8) (h12 : t.1 66 12 = s.1 66 12) (hu : rf_tu s t) (h : px_itm s k lo hi q) : px_itm t k lo hi q := by
  unfold px_itm
  rw [hb 85 (by omega) (by omega), hb 86 (by omega) (by omega), hb 87 (by omega) (by omega), hb 89 (by omega) (by omega), hb 90 (by omega) (by omega), hb 91 (by omega) (by omega)]
  rcases h with ⟨a, b, c, d, e⟩ | ⟨a, a2, mid, b, c, d⟩
  · exact Or.inl ⟨a, b, c, qx_is_up d hu, e⟩
  · exact Or.inr ⟨a, a2, mid, b, px_tr_up2 ha h8 h12 hu c, px_tr_up2 ha h8 h12 hu d⟩
theorem px_drop {l : List ((Int × Int × qx_T) × (px_N × px_N))} {k : Nat} {q : ((Int × Int × qx_T) × (px_N × px_N))} (h : l[k]? = some q) : l.drop k = q :: l.drop (k + 1) := by
  obtain ⟨hl, e⟩ := List.getElem?_eq_some_iff.mp h
  rw [List.drop_eq_getElem_cons hl, e]
