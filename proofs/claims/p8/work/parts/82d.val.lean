/-! ===== the reference: values as they are written ===== -/
section
variable {Ω : Type}
theorem we_D_eq {s t : sx_S} {dp : Int} (h58 : t.1 66 58 = s.1 66 58) (h1 : 1 ≤ s.1 66 58) (hd : ∀ j : Nat, (j : Int) < s.1 66 58 → t.2.1 107 j = s.2.1 107 j) : we_D t dp = we_D s dp := by
  funext v
  unfold we_D
  rw [h58]
  by_cases c : v < s.1 66 58
  · rw [if_pos c, if_pos c, hd v.toNat (by omega)]
  · rw [if_neg c, if_neg c]
theorem we_V_eq {E : we_E Ω} {s t : sx_S} {A : rf_N} {y : rf_Y} {dp : Int} (h58 : t.1 66 58 = s.1 66 58) (h1 : 1 ≤ s.1 66 58) (hd : ∀ j : Nat, (j : Int) < s.1 66 58 → t.2.1 107 j = s.2.1 107 j) : we_V E t A y dp = we_V E s A y dp ∧ we_X E t A y dp = we_X E s A y dp := by
  unfold we_V we_X
  rw [we_D_eq h58 h1 hd, h58]
  exact ⟨rfl, rfl⟩
theorem we_V_rig {E : we_E Ω} {s : sx_S} {j : Nat} {q : Int × Int} {u : Unit} {f x : rf_N} {y : rf_Y} {dp : Int} (h : q.1 = 1 ∨ q.1 = 2) : we_V E s (.inner j q u f x) y dp = rf_n 0 q.1 (if q.1 = 2 then we_D s dp (rf_look y q.2) else q.2) (we_X E s f y dp) .leaf := by
  unfold we_V we_X
  rw [vr_V_rig h, vx_re_in]
  dsimp only
  have e : (if q.1 = 2 then we_D s dp (if q.1 = 2 then rf_look y q.2 else q.2) else (if q.1 = 2 then rf_look y q.2 else q.2)) = (if q.1 = 2 then we_D s dp (rf_look y q.2) else q.2) := by
    by_cases h2 : q.1 = 2
    · rw [if_pos h2, if_pos h2, if_pos h2]
    · rw [if_neg h2, if_neg h2, if_neg h2]
  rw [e]
  rfl
theorem we_X_c {E : we_E Ω} (hg : ∀ m, vx_on (we_th E m)) {s : sx_S} {j : Nat} {q : Int × Int} {u : Unit} {f x : rf_N} {y : rf_Y} {dp : Int} : we_X E s (.inner j q u f x) y dp = vx_sb (we_V E s (.inner j q u f x) y dp) (we_X E s x y dp) := by
  unfold we_X we_V
  rw [vr_X_c hg, vx_re_sb]
theorem we_V_lam {E : we_E Ω} {s t : sx_S} {j : Nat} {q : Int × Int} {u : Unit} {f x : rf_N} {y : rf_Y} {dp v : Int} (h : q.1 = 0) (h1 : 1 ≤ s.1 66 58) (hv : v = s.1 66 58) (h58 : t.1 66 58 = s.1 66 58 + 1) (hd : ∀ j : Nat, (j : Int) < s.1 66 58 + 1 → t.2.1 107 j = if j = v.toNat then dp else s.2.1 107 j) : we_V E s (.inner j q u f x) y dp = rf_n 0 0 0 (we_V E t f (rf_one q.2 v y) (dp + 1)) .leaf := by
  have eD : we_D t (dp + 1) = we_D s dp := by
    funext z
    unfold we_D
    rw [h58]
    by_cases c : z < s.1 66 58
    · rw [if_pos (by omega), if_pos c, hd z.toNat (by omega), if_neg (by omega)]
    · rw [if_neg c]
      by_cases c2 : z = s.1 66 58
      · rw [if_pos (by omega), hd z.toNat (by omega), if_pos (by omega)]
        omega
      · rw [if_neg (by omega)]
        omega
  unfold we_V
  rw [vr_V_lam h, eD, h58, hv]
  rfl
theorem we_t_3 {s : sx_S} {AR : Nat → List Int} {j : Nat} {q : Int × Int} {u : Unit} {f x : rf_N} (h : vr_t s AR (.inner j q u f x)) (k : q.1 = 3) : vr_p s AR j q.2 := by
  obtain ⟨_, ⟨c, _⟩ | ⟨_, c⟩ | ⟨c, _⟩⟩ := h
  · omega
  · exact c
  · omega
theorem we_t_0 {s : sx_S} {AR : Nat → List Int} {j : Nat} {q : Int × Int} {u : Unit} {f x : rf_N} (h : vr_t s AR (.inner j q u f x)) (k : q.1 = 0) : vr_t s AR f := by
  obtain ⟨_, ⟨_, c⟩ | ⟨c, _⟩ | ⟨c, _⟩⟩ := h
  · exact c
  · omega
  · omega
theorem we_t_2 {s : sx_S} {AR : Nat → List Int} {j : Nat} {q : Int × Int} {u : Unit} {f x : rf_N} (h : vr_t s AR (.inner j q u f x)) (k : q.1 = 1 ∨ q.1 = 2) : vr_r s AR f := by
  obtain ⟨_, ⟨c, _⟩ | ⟨c, _⟩ | ⟨_, c⟩⟩ := h
  · omega
  · omega
  · exact c
theorem we_r_c {s : sx_S} {AR : Nat → List Int} {j : Nat} {q : Int × Int} {u : Unit} {f x : rf_N} (h : vr_r s AR (.inner j q u f x)) : vr_t s AR (.inner j q u f x) ∧ vr_r s AR x := h
/-- into a solved unknown -/
theorem we_V_en {E : we_E Ω} {nb ib : Int} {s t : sx_S} {g : rf_Gh} (hI : cx_I s) (hM : rf_MI nb ib s g) (hG : we_G E s g) {j : Nat} {kk : Int × Int} {u : Unit} {f n : rf_N} {y : rf_Y} {i dp : Int} (k3 : kk.1 = 3) (hp : vr_p s (we_AR E) j kk.2) (hs : s.2.1 111 kk.2.toNat ≠ 0) (hi : i.toNat = j) (h58 : t.1 66 58 = s.1 66 58) (hd : ∀ j : Nat, (j : Int) < s.1 66 58 → t.2.1 107 j = s.2.1 107 j) : we_V E t (g.1 kk.2) (rf_bh (g.2.1 kk.2) (rf_row (rf_fm s kk.2) (rf_vo s y i) (rf_aa s kk.2).toNat)) dp = we_V E s (.inner j kk u f n) y dp := by
  obtain ⟨⟨_, h2⟩, _, _, _, _, h7, _⟩ := hG trivial
  rw [(we_V_eq (E := E) h58 h7 hd).1]
  unfold we_V
  rw [vr_V_en hI hM h2 k3 hp hs hi]
/-- the call of an open unknown -/
theorem we_V_op {E : we_E Ω} {s : sx_S} {g : rf_Gh} (hG : we_G E s g) {j : Nat} {kk : Int × Int} {u : Unit} {f n : rf_N} {y : rf_Y} {dp : Int} (k3 : kk.1 = 3) (hp : vr_p s (we_AR E) j kk.2) (hr : 0 ≤ kk.2 ∧ kk.2 < s.1 66 61) (ho : s.2.1 111 kk.2.toNat = 0) (h0 : 0 ≤ rf_aa s kk.2) : ∃ Fv, we_V E s (.inner j kk u f n) y dp = rf_n 0 1 (-1 - kk.2) Fv .leaf ∧ dz_hs Fv = (List.range (rf_aa s kk.2).toNat).map (fun q => we_D s dp (rf_look y (rf_rv1 s j q))) := by
  obtain ⟨⟨_, h2⟩, h3, _⟩ := hG trivial
  refine ⟨vx_re (fun v => we_D s dp (vx_ix ((we_AR E j).map (rf_look y)) (s.1 66 58) v)) (vx_vs (rf_aa s kk.2).toNat 0), ?_, ?_⟩
  · unfold we_V
    rw [vr_V_call (fun m => (h2.1 m).1) k3, vx_re_re, h3 kk.2 hr.1 hr.2 ho]
    unfold vx_gn
    rw [vr_ar_at hr, vx_re_in]
    dsimp only
    rw [if_neg (by decide)]
    rfl
  · obtain ⟨a, b, c⟩ := wz_vs (rf_aa s kk.2).toNat 0
    rw [wz_hs_re _ a]
    refine List.ext_getElem? (fun i => ?_)
    rw [List.getElem?_map, List.getElem?_map]
    by_cases hi : i < (rf_aa s kk.2).toNat
    · rw [c i hi, List.getElem?_range hi]
      have hl : (we_AR E j).length = (rf_aa s kk.2).toNat := by
        rw [hp.2]
        exact vr_gl
      have hg : (we_AR E j)[i]? = some (rf_rv1 s j i) := by
        rw [hp.2]
        exact vr_gr.mpr ⟨hi, rfl⟩
      have e1 : vx_ix ((we_AR E j).map (rf_look y)) (s.1 66 58) (0 + (i : Int)) = rf_look y (rf_rv1 s j i) := by
        unfold vx_ix
        rw [List.length_map, hl, if_pos (by omega), show (0 + (i : Int)).toNat = i by omega]
        exact vx_getD (by rw [List.getElem?_map, hg]; rfl)
      show some (we_D s dp (vx_ix ((we_AR E j).map (rf_look y)) (s.1 66 58) (0 + (i : Int)))) = some (we_D s dp (rf_look y (rf_rv1 s j i)))
      rw [e1]
    · rw [List.getElem?_eq_none (by omega), List.getElem?_eq_none (by rw [List.length_range]; omega)]
      rfl
/-! brackets -/
def we_bk (v : rf_N) : Prop := (wz_q v).1 = 0 ∨ rf_len (wz_F v) ≠ 0
theorem we_len_re {ρ : Int → Int} : ∀ A : rf_N, rf_len (vx_re ρ A) = rf_len A
  | .leaf => rfl
  | .inner j q u F X => by
    show rf_len (vx_re ρ X) + 1 = rf_len X + 1
    rw [we_len_re X]
theorem we_bk_re {ρ : Int → Int} : ∀ {v : rf_N}, we_bk (vx_re ρ v) ↔ we_bk v
  | .leaf => Iff.rfl
  | .inner j q u F X => by
    show q.1 = 0 ∨ rf_len (vx_re ρ F) ≠ 0 ↔ q.1 = 0 ∨ rf_len F ≠ 0
    rw [we_len_re F]
theorem we_len_sb {a X : rf_N} (h : vx_on a) : rf_len (vx_sb a X) = rf_len X + 1 := by
  obtain ⟨k, h, F, rfl⟩ := h
  rfl
theorem we_len_val {th : Int → rf_N} {AR : Nat → List Int} (hg : ∀ m, vx_on (th m)) {e : Int → Int} {L : Int} : ∀ A : rf_N, rf_len (vx_val th AR A e L) = rf_len A
  | .leaf => rfl
  | .inner j q u F X => by
    rw [vx_val_1 hg, we_len_sb (vx_val_one hg j q u F e L), we_len_val hg X]
    rfl
theorem we_bk_val {th : Int → rf_N} {AR : Nat → List Int} (hg : ∀ m, vx_on (th m)) {j : Nat} {q : Int × Int} {u : Unit} {F : rf_N} {e : Int → Int} {L : Int} : we_bk (vx_val th AR (.inner j q u F .leaf) e L) ↔ (q.1 = 0 ∨ (q.1 = 3 ∧ we_bk (th q.2)) ∨ (q.1 ≠ 3 ∧ rf_len F ≠ 0)) := by
  rw [vx_val_in]
  by_cases h0 : q.1 = 0
  · rw [if_pos h0]
    exact ⟨fun _ => Or.inl h0, fun _ => Or.inl rfl⟩
  · rw [if_neg h0]
    by_cases h3 : q.1 = 3
    · rw [if_pos h3]
      have e1 : vx_val th AR .leaf e L = .leaf := rfl
      rw [e1, vx_sb_leaf (vx_re_on (hg _)), we_bk_re]
      exact ⟨fun h => Or.inr (Or.inl ⟨h3, h⟩), fun h => h.elim (fun c => absurd c h0) (fun h => h.elim (fun h => h.2) (fun h => absurd h3 h.1))⟩
    · rw [if_neg h3]
      show q.1 = 0 ∨ rf_len (vx_val th AR F e L) ≠ 0 ↔ _
      rw [we_len_val hg F]
      exact ⟨fun h => h.elim Or.inl (fun h => Or.inr (Or.inr ⟨h3, h⟩)), fun h => h.elim Or.inl (fun h => h.elim (fun h => absurd h.1 h3) (fun h => Or.inr h.2))⟩
/-- a bracket for the tree T: just if B -/
def we_bt (E : we_E Ω) (B : Prop) (T : rf_N) : Prop := ∀ (e : Int → Int) (L : Int), we_bk (vx_val (we_th E) (we_AR E) (vr_1 T) e L) ↔ B
theorem we_bt_V {E : we_E Ω} {s : sx_S} {j : Nat} {q : Int × Int} {u : Unit} {f x : rf_N} {y : rf_Y} {dp : Int} (hg : ∀ m, vx_on (we_th E m)) : we_bt E (we_bk (we_V E s (.inner j q u f x) y dp)) (.inner j q u f x) := fun e L => by
  unfold we_V vr_V
  rw [we_bk_re, vr_1_in, we_bk_val hg, we_bk_val hg]
theorem c_e_hasParts {sL : Nat} {sx : Nat → Int32} (hsL : sL ≤ 3072) (d : Nat) (hd : 2 ≤ d) {E : we_E Ω} : ∀ (B : Prop) (N : Int → rf_T → Prop) (A : rf_N) (y : rf_Y) (x : rf_T) (W : List Nat) (p : Nat) (i b nb ib : Int) (s : sx_S) (g : rf_Gh) (K : Int → sx_S → Prop), cx_I s → rf_MI nb ib s g → rf_ph s g ≤ 1150 → rf_CL s g N A y x W p i b → we_G E s g → vr_t s (we_AR E) A → we_bt E B A → (∀ z : Int, (0 ≤ z ∧ z ≤ 1) → (z ≠ 0 ↔ B) → K z s) → sx_C sL sx d 210 [.inr (.inl 66), .inl i, .inl b] s K := by
  intro B N A y x W p i b nb ib s g K hI hM hph k hG ht hB hK
  obtain ⟨d, rfl⟩ : ∃ e, d = e + 2 := ⟨d - 2, by omega⟩
  have r50 := hI.fld 66 50 (by decide) rfl
  have r61 := hI.fld 66 61 (by decide) rfl
  obtain ⟨⟨G1, G2⟩, G3, _⟩ := hG trivial
  have hg : ∀ m, vx_on (we_th E m) := fun m => (G2.1 m).1
  refine sx_methL (wr := true) (n := 400) (n' := 400) (stop := [(2, [0, 3])]) (fun ms pc ls u => (pc = 2 ∧ ∃ (x3 : Int) (T : rf_N) (t : rf_T) (N : Int → rf_T → Prop) (c : Int) (W : List Nat) (p : Nat), ls = [(0, .inr (.inl 66)), (3, .inl x3)] ∧ s = u ∧ rf_no s T x3 ∧ (rf_gt (rf_Hn c s N) rf_P T).1 t ∧ rf_wy s g W (rf_oc T).1 (rf_wh T).1 p ∧ (vr_t s (we_AR E) T ∧ we_bt E B T) ∧ ms = p)) hsL (e := eX12_hasParts) rfl ?_ ?_
  · exact w_hasParts ⟨_, rfl, i, A, x, N, _, W, p, rfl, rfl, k.1.1, k.1.2.1, k.2.2.2, ⟨ht, hB⟩, rfl⟩
  · rintro ms pc ls u ⟨rfl, x3, T, t, N, c, W, p, rfl, rfl, h1, h2, h3, ⟨tT, bT⟩, rfl⟩
    cases T with
    | leaf => exact h2.elim
    | inner j kk uu f n =>
      obtain ⟨⟨m0, m1⟩, ⟨m2, m3⟩, m4, m5⟩ := h1
      have ej : x3.toNat = j := by omega
      have hr : kk.1 = 3 → 0 ≤ kk.2 ∧ kk.2 < s.1 66 61 := fun q => by
        rcases h2 with ⟨e, _⟩ | ⟨_, w, q1, _⟩
        · omega
        · exact (rf_Hn_3 q1 q).2.1
      have bb := fun e L => (by
        have := bT e L
        rw [vr_1_in, we_bk_val hg] at this
        exact this : (kk.1 = 0 ∨ (kk.1 = 3 ∧ we_bk (we_th E kk.2)) ∨ (kk.1 ≠ 3 ∧ rf_len (vr_f kk.1 f) ≠ 0)) ↔ B)
      have bb0 := bb (fun _ => 0) 0
      refine w_e_hasParts_2 hI (by omega) (fun q => by rw [ej, m2] at q; have := hr q; rw [ej, m3]; omega) (fun q hs u hu => ?_) (fun z hz z1 z2 z3 z4 z5 => hK z hz ?_)
      · rw [ej, m2] at q
        rw [ej, m3] at hs hu
        have hrr := hr q
        have hSV := (hM.1 kk.2 hrr.1 hrr.2).2.2.2 hs
        have hpp := rf_wy_pos h3 hph
        have hw5 : (rf_wh (.inner j kk uu f n)).1 = 5 := if_pos q
        have hin := rf_wy_in h3 hM hph (x := kk.2) (Or.inl ⟨q, rfl⟩) (by omega) hrr.1 hrr.2 hs
        refine ⟨_, by omega, rfl, u, g.1 kk.2, .leaf, _, _, _, ms - 5, rfl, rfl, by rw [hu]; exact hSV.1.1, hSV.1.2.1, hin, ⟨G1 kk.2 hrr.1 hrr.2 hs, fun e L => ?_⟩, rfl⟩
        have hth := G2.2.2 kk.2 _ _ (vr_bo_at hrr hs)
        have h5 : we_bk (we_th E kk.2) ↔ B := by
          rw [← bb0]
          exact ⟨fun h => Or.inr (Or.inl ⟨q, h⟩), fun h => h.elim (fun c => by omega) (fun h => h.elim (fun h => h.2) (fun h => absurd q h.1))⟩
        rw [← h5]
        cases hgk : g.1 kk.2 with
        | leaf => exact absurd hgk (vr_t_ne (G1 kk.2 hrr.1 hrr.2 hs))
        | inner j2 q2 u2 f2 x2 =>
          have hth' : we_th E kk.2 = vx_val (we_th E) (we_AR E) (vr_1 (.inner j2 q2 u2 f2 x2)) (vr_e s g kk.2) (vr_ar s kk.2) := by
            rw [← hgk]
            exact hth
          rw [hth', vr_1_in, we_bk_val hg, we_bk_val hg]
      · rw [← bb0]
        rw [ej, m2] at z1 z2 z3 z4 z5
        rw [m3] at z1 z2 z3
        by_cases k3 : kk.1 = 3
        · have hrr := hr k3
          have ho := z1 k3
          have e1 := G3 kk.2 hrr.1 hrr.2 ho
          have e2 : we_bk (we_th E kk.2) ↔ 0 < s.2.1 108 kk.2.toNat := by
            rw [e1]
            show (1 : Int) = 0 ∨ rf_len (vx_vs (vr_ar s kk.2).toNat 0) ≠ 0 ↔ _
            have e3 := (wz_vs (vr_ar s kk.2).toNat 0).2.1
            rw [dz_hs_len] at e3
            rw [e3, vr_ar_at hrr]
            unfold rf_aa
            constructor
            · rintro (h | h)
              · exact absurd h (by decide)
              · omega
            · intro h
              exact Or.inr (by omega)
          constructor
          · intro hz0
            refine Or.inr (Or.inl ⟨k3, e2.mpr ?_⟩)
            apply Classical.byContradiction
            intro hc
            exact hz0 (z3 k3 (by omega))
          · rintro (h | ⟨_, h⟩ | ⟨h, _⟩)
            · omega
            · have := z2 k3 (e2.mp h)
              omega
            · exact absurd k3 h
        · have hfl : s.2.1 102 j ≠ -1 ↔ f ≠ .leaf := by
            cases f with
            | leaf =>
              have : s.2.1 102 j = -1 := m4
              exact ⟨fun h => absurd this h, fun h => absurd rfl h⟩
            | inner j1 k1 u1 f1 n1 =>
              have : s.2.1 102 j = (j1 : Int) := m4.1.1
              exact ⟨fun _ h => (by cases h), fun _ h => (by omega)⟩
          constructor
          · intro hz0
            have hf : f ≠ .leaf := hfl.mp (fun h => hz0 (z5 k3 h))
            by_cases k0 : kk.1 = 0
            · exact Or.inl k0
            · refine Or.inr (Or.inr ⟨k3, ?_⟩)
              unfold vr_f
              rw [if_neg k0, if_neg k3]
              cases f with
              | leaf => exact absurd rfl hf
              | inner j1 k1 u1 f1 n1 =>
                rw [vr_c_in]
                show rf_len (vr_c n1) + 1 ≠ 0
                omega
          · intro h
            have hf : f ≠ .leaf := by
              rcases h with h | ⟨h, _⟩ | ⟨_, h⟩
              · rcases h2 with ⟨_, A1, B1, _, _, hg1⟩ | ⟨c1, _⟩
                · intro hc
                  rw [hc] at hg1
                  exact hg1
                · exact absurd h c1
              · exact absurd h k3
              · intro hc
                apply h
                unfold vr_f
                rw [if_neg k3, hc]
                by_cases k0 : kk.1 = 0
                · rw [if_pos k0]
                  rfl
                · rw [if_neg k0]
                  rfl
            have := z4 k3 (hfl.mpr hf)
            omega
end
