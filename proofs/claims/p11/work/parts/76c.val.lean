/-! ===== what build makes has the values of the desk's trees ===== -/
theorem vk_pv_wt {SN : Int → Int → Prop} {C M : List (Int × qx_T)} {g : Nat → qx_T} : ∀ {f : px_N} {Γ : List (Int × qx_T)} {ls : List Nat} {x y : qx_T}, (px_pv SN f).2 Γ ls → (px_wt SN C M f).2 Γ (dz_as (ls.map g) x) y → x = y
  | .leaf, _, ls, x, y, h, h' => by
    have e : ls = [] := h
    subst e
    exact h'
  | .inner a b c d f, Γ, ls, x, y, h, h' => by
    obtain ⟨w, r, e, _, z2⟩ := px_pv_c.mp h
    subst e
    obtain ⟨A, B, w1, _, w3⟩ := px_wt_c.mp h'
    have w2 : qx_a (g w) (dz_as (r.map g) x) = qx_a A B := w1
    obtain ⟨_, e2⟩ := qx_a_inj w2
    rw [← e2] at w3
    exact vk_pv_wt z2 w3
theorem vk_tm_wt {SN : Int → Int → Prop} {C M : List (Int × qx_T)} {TV : Int → qx_T → Prop} {AR : Nat → List Int} : ∀ {n : px_N}, (∀ {W : rf_N} {Γ : List (Int × qx_T)} {ρ : List Int} {x y : qx_T}, (vl_tm SN C M TV AR n).1 W Γ ρ x → (px_wt SN C M n).1 Γ y → x = y) ∧ (∀ {F : rf_N} {Γ : List (Int × qx_T)} {ρ : List Int} {U L L' : qx_T}, (vl_tm SN C M TV AR n).2 F Γ ρ U L → (px_wt SN C M n).2 Γ U L' → L = L')
  | .leaf => ⟨fun h => h.elim, fun h h' => h.2.symm.trans h'⟩
  | .inner g q u f n => by
    have hf := vk_tm_wt (SN := SN) (C := C) (M := M) (TV := TV) (AR := AR) (n := f)
    have hn := vk_tm_wt (SN := SN) (C := C) (M := M) (TV := TV) (AR := AR) (n := n)
    have one : ∀ {W : rf_N} {Γ : List (Int × qx_T)} {ρ : List Int} {x y : qx_T}, (vl_tm SN C M TV AR (.inner g q u f n)).1 W Γ ρ x → (px_wt SN C M (.inner g q u f n)).1 Γ y → x = y := by
      intro W Γ ρ x y h h'
      rcases h with ⟨g0, j, v, F, B, h1, h2, h3, h4⟩ | ⟨g0, k, i, U, h0, h1, h2, h3⟩ <;> rcases h' with ⟨g0', _, B', w1, w2⟩ | ⟨g0', k', i', U', w1, w2, w3⟩
      · rw [h4, w2, hf.1 h3 w1]
      · exact absurd g0 g0'
      · exact absurd g0' g0
      · obtain ⟨_, _, e3⟩ := px_hd_fun h1 w1
        rw [← e3] at w2
        rcases h3 with ⟨_, F, r1, _⟩ | ⟨_, ls, r1, _, r3, _⟩
        · exact hf.2 r1 w2
        · rw [r3] at w2
          exact vk_pv_wt r1 w2
    refine ⟨one, fun {F Γ ρ U L L'} h h' => ?_⟩
    obtain ⟨W, X, A, U', _, a3, a4, a5⟩ := vl_tm_c.mp h
    obtain ⟨A', B', w1, w2, w3⟩ := px_wt_c.mp h'
    obtain ⟨_, e2⟩ := qx_a_inj (a3.symm.trans w1)
    rw [← e2] at w3
    exact hn.2 a5 w3
theorem vq_up_ag {us us' ρ ρ' : List Int} {L : Int} {e e' : Int → Int} (h : ∀ c ∈ us, c ∉ ρ) (h' : ∀ c ∈ us', c ∉ ρ') (ha : vl_ag ρ ρ' e e') : vl_ag ρ ρ' (vq_up us L e) (vq_up us' L e') := by
  refine ⟨ha.1, fun l hl => ?_⟩
  rw [vq_up_no (fun q => h _ q (vl_id_mem hl)), vq_up_no (fun q => h' _ q (vl_id_mem (by rw [← ha.1]; exact hl)))]
  exact ha.2 l hl
theorem vq_up_eq {us us' : List Int} {L : Int} {e e' : Int → Int} (hn : us.Nodup) (hn' : us'.Nodup) (hl : us.length = us'.length) : us.map (vq_up us L e) = us'.map (vq_up us' L e') := by
  apply List.ext_getElem?
  intro k
  by_cases hk : k < us.length
  · rw [vq_up_map hn L e k hk, vq_up_map hn' L e' k (by omega)]
  · rw [List.getElem?_eq_none (by rw [List.length_map]; omega), List.getElem?_eq_none (by rw [List.length_map]; omega)]
theorem vk_sh_a {x y : qx_T} {A B : rf_T} (h : qx_sh (qx_a x y) = rf_a A B) : A = qx_sh x ∧ B = qx_sh y := by
  have h' : rf_a (qx_sh x) (qx_sh y) = rf_a A B := h
  injection h' with _ _ _ h1 h2
  exact ⟨h1.symm, h2.symm⟩
theorem vq_oc_sb {W X : rf_N} (hW : vx_sg W) {i : Nat} {m : Int} (h : vq_oc W i m ∨ vq_oc X i m) : vq_oc (vx_sb W X) i m := by
  obtain ⟨j, k, r, F, rfl⟩ := hW
  show vq_oc (.inner j (k, r) () F X) i m
  rcases h with (h | h | h) | h
  · exact Or.inl h
  · exact Or.inr (Or.inl h)
  · exact h.elim
  · exact Or.inr (Or.inr h)
/-- what counts of what build makes is all -/
theorem vq_bm_c1 {RP : Nat → rf_T → Prop} {RW : Nat → Int → List Int → Prop} {i0 : Int} : ∀ {m : rf_N}, (∀ N, (vq_bm RP RW i0 m).1 N → vr_1 N = N) ∧ (∀ F, (vq_bm RP RW i0 m).2 F → vr_c F = F)
  | .leaf => ⟨fun _ h => h.elim, fun F h => by
    have e : F = .leaf := h
    rw [e]
    rfl⟩
  | .inner j k u f x => by
    have hf := vq_bm_c1 (RP := RP) (RW := RW) (i0 := i0) (m := f)
    have hx := vq_bm_c1 (RP := RP) (RW := RW) (i0 := i0) (m := x)
    have one : ∀ N, (vq_bm RP RW i0 (.inner j k u f x)).1 N → vr_1 N = N := by
      rintro N (⟨_, i, F, rfl, h⟩ | ⟨_, F, y, _, h, us, _, _, _, c, _⟩ | ⟨_, vs, ws, y, i, _, _, _, us, _, _, _, _, c, _⟩)
      · show (.inner i (0, k.2) () (vr_f 0 F) .leaf : rf_N) = .inner i (0, k.2) () F .leaf
        rw [vr_f_0 rfl, hf.1 F h]
      · exact c (hf.2 F h)
      · exact c
    refine ⟨one, fun F h => ?_⟩
    obtain ⟨W, X, ⟨s1, s2⟩, b1, b2⟩ := vq_bm_c.mp h
    have e1 := vq_1_c (one W b1)
    have e2 := hx.2 X b2
    obtain ⟨p1, p2, p3, G, rfl⟩ := s1
    subst s2
    have e3 : (.inner p1 (p2, p3) () (vr_f p2 G) .leaf : rf_N) = .inner p1 (p2, p3) () G .leaf := e1
    injection e3 with _ _ _ e4 _
    show (.inner p1 (p2, p3) () (vr_f p2 G) (vr_c X) : rf_N) = .inner p1 (p2, p3) () G X
    rw [e4, e2]
/-- types of what is bound -/
def vk_en (SN : Int → Int → Prop) (s : sx_S) (Γ : List (Int × qx_T)) (ρ : List Int) : Prop := ∀ (a : Int) (i : Nat) (u : qx_T) (A : rf_T), px_vr SN Γ a i u → rf_vt s (px_id ρ i) A → A = qx_sh u
theorem vk_en_0 {SN : Int → Int → Prop} {s : sx_S} : vk_en SN s [] [] := fun _ _ _ _ h _ => h.elim
theorem vk_en_1 {SN : Int → Int → Prop} {s : sx_S} {Γ : List (Int × qx_T)} {ρ : List Int} {q : Int × qx_T} {v : Int} (h : vk_en SN s Γ ρ) (hl : ρ.length = Γ.length) (hv : rf_vt s v (qx_sh q.2)) : vk_en SN s (q :: Γ) (v :: ρ) := by
  intro a i u A h1 h2
  rcases h1 with ⟨_, e1, e2⟩ | ⟨_, h1⟩
  · rw [e1, ← hl, px_id_top] at h2
    rw [e2]
    exact rf_ty_inj h2.2 hv.2
  · have := px_vr_lt h1
    rw [px_id_cons (by omega)] at h2
    exact h a i u A h1 h2
section VKV
variable {SN : Int → Int → Prop} {C M : List (Int × qx_T)} {s : sx_S} {TV : Int → qx_T → Prop} {AR AR' : Nat → List Int} {th : Int → rf_N} {RP : Nat → rf_T → Prop} {RW : Nat → Int → List Int → Prop} {OC : Nat → Int → Prop}
theorem vk_val (hon : ∀ m, vx_on (th m)) (hC : ∀ a k u A, px_cf SN C a k u → rf_is s A (s.2.1 96 k) → A = qx_sh u) (hM : ∀ a k u A, px_cf SN M a k u → rf_is s A (s.2.1 123 k) → A = qx_sh u) (hRP : ∀ j y y', rf_RP s j y → RP j y' → y' = y) (hRW : ∀ i m ws, RW i m ws → OC i m → (0 ≤ m ∧ m < s.1 66 45) → AR i = ws) : ∀ {m : rf_N} {n : px_N}, (∀ {N W : rf_N} {Γ : List (Int × qx_T)} {ρ ρ' : List Int} {x : qx_T}, px_so ρ → ρ.length = Γ.length → (∀ v ∈ ρ, v < s.1 66 58) → vk_en SN s Γ ρ → (vk_lk SN C M m n).1 Γ ρ → (rf_gt (rf_RH s) (rf_RP s) m).1 (qx_sh x) → (vq_bm RP RW (s.1 66 58) m).1 N → (∀ i r, vq_oc N i r → OC i r) → (vl_tm SN C M TV AR' n).1 W Γ ρ' x → ∀ e e' L, vl_ag ρ ρ' e e' → vx_val th AR N e L = vx_val th AR' W e' L) ∧ (∀ {F F' : rf_N} {Γ : List (Int × qx_T)} {ρ ρ' : List Int} {U L : qx_T} {ut : rf_T}, px_so ρ → ρ.length = Γ.length → (∀ v ∈ ρ, v < s.1 66 58) → vk_en SN s Γ ρ → (vk_lk SN C M m n).2 Γ ρ → (rf_gt (rf_RH s) (rf_RP s) m).2 (qx_sh U) ut → (vq_bm RP RW (s.1 66 58) m).2 F → (∀ i r, vq_oc F i r → OC i r) → (vl_tm SN C M TV AR' n).2 F' Γ ρ' U L → ∀ e e' K, vl_ag ρ ρ' e e' → vx_val th AR F e K = vx_val th AR' F' e' K)
  | .leaf, .leaf => ⟨fun _ _ _ _ h => h.elim, fun {F F' Γ ρ ρ' U L ut} _ _ _ _ _ _ h5 _ h7 e e' K _ => by
    have e1 : F = .leaf := h5
    have e2 : F' = .leaf := h7.1
    rw [e1, e2]
    rfl⟩
  | .leaf, .inner _ _ _ _ _ => ⟨fun _ _ _ _ h => h.elim, fun _ _ _ _ h => h.elim⟩
  | .inner _ _ _ _ _, .leaf => ⟨fun _ _ _ _ h => h.elim, fun _ _ _ _ h => h.elim⟩
  | .inner j k u f x, .inner g q u0 f' x' => by
    have hf := vk_val hon hC hM hRP hRW (m := f) (n := f')
    have hx := vk_val hon hC hM hRP hRW (m := x) (n := x')
    have one : ∀ {N W : rf_N} {Γ : List (Int × qx_T)} {ρ ρ' : List Int} {y : qx_T}, px_so ρ → ρ.length = Γ.length → (∀ v ∈ ρ, v < s.1 66 58) → vk_en SN s Γ ρ → (vk_lk SN C M (.inner j k u f x) (.inner g q u0 f' x')).1 Γ ρ → (rf_gt (rf_RH s) (rf_RP s) (.inner j k u f x)).1 (qx_sh y) → (vq_bm RP RW (s.1 66 58) (.inner j k u f x)).1 N → (∀ i r, vq_oc N i r → OC i r) → (vl_tm SN C M TV AR' (.inner g q u0 f' x')).1 W Γ ρ' y → ∀ e e' L, vl_ag ρ ρ' e e' → vx_val th AR N e L = vx_val th AR' W e' L := by
      intro N W Γ ρ ρ' y hs hl hlt hen hlk hgt hbm hoc htm e e' L ha
      rcases hlk with ⟨k0, g0, hw, hlk⟩ | ⟨k0, g0, i, U0, hh, ⟨h2, h2n⟩, hlk⟩
      · have hgt' : ∃ A B, qx_sh y = rf_a A B ∧ rf_vt s k.2 A ∧ (rf_gt (rf_RH s) (rf_RP s) f).1 B := by
          rcases hgt with ⟨_, A, B, e1, ⟨_, e2⟩, e3⟩ | ⟨z, _⟩
          · refine ⟨A, B, e1, ?_, e3⟩
            rcases e2 with z | z | z | z
            · exact z.2
            · exact absurd z.1 (by omega)
            · exact z.2
            · exact absurd z.1 (by omega)
          · exact absurd k0 z
        obtain ⟨A, B, e1, e2, e3⟩ := hgt'
        have hbm' : ∃ (i : Nat) (F : rf_N), N = rf_n i 0 k.2 F .leaf ∧ (vq_bm RP RW (s.1 66 58) f).1 F := by
          rcases hbm with ⟨_, z⟩ | ⟨z, _⟩ | ⟨z, _⟩
          · exact z
          · omega
          · omega
        obtain ⟨i, F, rfl, hbF⟩ := hbm'
        rcases htm with ⟨_, j', v, F', B', rfl, ⟨v1, _⟩, t3, t4⟩ | ⟨z, _⟩
        · subst t4
          obtain ⟨a1, a2⟩ := vk_sh_a e1
          subst a1 a2
          refine vl_lam ?_
          refine hf.1 (Γ := q :: Γ) (ρ := k.2 :: ρ) (ρ' := v :: ρ') ⟨hw, hs⟩ (by rw [List.length_cons, List.length_cons, hl]) (fun w hw' => ?_) (vk_en_1 hen hl e2) hlk e3 hbF (fun a b c => hoc a b (Or.inr (Or.inl c))) t3 _ _ _ (vl_ag_up (fun z => by have := hw _ z; omega) v1 ha)
          rcases List.mem_cons.mp hw' with rfl | z
          · exact e2.1.2
          · exact hlt w z
        · exact absurd g0 z
      · have hgt' : ∃ U', rf_RH s j k.1 k.2 U' ∧ (rf_gt (rf_RH s) (rf_RP s) f).2 U' (qx_sh y) ∧ rf_RP s j (qx_sh y) := by
          rcases hgt with ⟨z, _⟩ | ⟨_, z⟩
          · exact absurd z k0
          · exact z
        obtain ⟨U', ⟨_, e1⟩, e2, e3⟩ := hgt'
        rcases htm with ⟨z, _⟩ | ⟨_, k', i', U, h, hh', ⟨h2', h2n'⟩, t3⟩
        · exact absurd z g0
        obtain ⟨f1, f2, f3⟩ := px_hd_fun hh hh'
        subst f1 f2 f3
        have hU : U' = qx_sh U0 := by
          rcases hh with ⟨z, hv⟩ | ⟨z, _, hv⟩ | ⟨z, _, _, hv⟩
          · have hvt : rf_vt s k.2 U' := by
              rcases e1 with y1 | y1 | y1 | y1
              · exact y1.2
              · exact absurd y1.1 (by omega)
              · exact y1.2
              · exact absurd y1.1 (by omega)
            rw [h2 z] at hvt
            exact hen _ _ _ _ hv hvt
          · have hvt : rf_is s U' (s.2.1 96 k.2.toNat) := by
              rcases e1 with y1 | y1 | y1 | y1
              · exact absurd y1.1 (by omega)
              · exact y1.2.2
              · exact absurd y1.1 (by omega)
              · exact absurd y1.1 (by omega)
            rw [h2n (by omega), Int.toNat_natCast] at hvt
            exact hC _ _ _ _ hv hvt
          · have hvt : rf_is s U' (s.2.1 123 k.2.toNat) := by
              rcases e1 with y1 | y1 | y1 | y1
              · exact absurd y1.1 (by omega)
              · exact absurd y1.1 (by omega)
              · exact absurd y1.1 (by omega)
              · exact y1.2.2
            rw [h2n (by omega), Int.toNat_natCast] at hvt
            exact hM _ _ _ _ hv hvt
        subst hU
        have hil : k.1 = 2 → i < Γ.length := fun z => by
          rcases hh with ⟨_, hv⟩ | ⟨z', _⟩ | ⟨z', _⟩
          · exact px_vr_lt hv
          · omega
          · omega
        rcases hbm with ⟨z, _⟩ | ⟨k12, F, y', b1, b2, us, c1, c2, c3, _, c4, c5⟩ | ⟨k3, vs, ws, y', i', b1, b2, b3, us, c1, c2, c3, c4, _, c5, c6⟩
        · exact absurd z k0
        · have ey := hRP _ _ _ e3 b1
          subst ey
          rcases t3 with ⟨_, F', r1, r2⟩ | ⟨z, _⟩
          · obtain ⟨us', d1, d2, d3, d4⟩ := vq_c1 (by omega) (by omega) r2
            have hus : ∀ c ∈ us, c ∉ ρ := fun c hc q => by
              have := c3 c hc
              have := hlt c q
              omega
            have hag := vq_up_ag (L := L) hus d3 ha
            have hlen : us.length = us'.length := by rw [c1, d1]
            rw [c5 th AR e L hon, d4 th AR' e' L hon, ← hlen, hf.2 hs hl hlt hen hlk e2 b2 (fun a b c => hoc a b (c4 a b c)) r1 _ _ (L + (us.length : Int)) hag]
            have eh : (if k.1 = 2 then vq_up us L e k.2 else k.2) = (if k.1 = 2 then vq_up us' L e' h else h) := by
              by_cases z : k.1 = 2
              · rw [if_pos z, if_pos z, h2 z, h2' z]
                exact hag.2 i (by rw [hl]; exact hil z)
              · rw [if_neg z, if_neg z, h2n z, h2n' z]
            rw [eh]
          · omega
        · have ey := hRP _ _ _ e3 b1
          subst ey
          rcases t3 with ⟨z, _⟩ | ⟨_, ls, r1, r1', r3, r2⟩
          · exact absurd k3 z
          · obtain ⟨us', d1, d2, d3, d4⟩ := vq_c3 r2
            obtain ⟨ls', m1, m2⟩ := ((vk_lk_pv hs hl).2 hlk vs).mp b2
            have el : ls' = ls := px_pv_fun.2 m2 r1
            subst el
            have hus : ∀ c ∈ us, c ∉ ρ := fun c hc q => by
              have := c3 c hc
              have := hlt c q
              omega
            have hag := vq_up_ag (L := L) hus d3 ha
            have hlen : us.length = us'.length := by rw [c1, d1]
            have hrg : 0 ≤ k.2 ∧ k.2 < s.1 66 45 := by
              rcases e1 with y1 | y1 | y1 | y1
              · exact absurd y1.1 (by omega)
              · exact absurd y1.1 (by omega)
              · exact absurd y1.1 (by omega)
              · exact y1.2.1
            rw [c6 th AR e L hon (hRW _ _ _ b3 (hoc _ _ c5) hrg), d4 th e' L hon, ← hlen]
            have e4 : ws.map (vq_up us L e) = (ls'.map (vl_id ρ') ++ us').map (vq_up us' L e') := by
              rw [c4, m1, List.map_append, List.map_append, vq_up_eq c2 d2 hlen]
              congr 1
              rw [List.map_map, List.map_map]
              exact List.map_congr_left (fun l hl' => hag.2 l (by rw [hl]; exact r1' l hl'))
            rw [e4, h2n (by omega), h2n' (by omega)]
    refine ⟨one, fun {F F' Γ ρ ρ' U L ut} hs hl hlt hen hlk hgt hbm hoc htm e e' K ha => ?_⟩
    obtain ⟨W, X, A, U1, ⟨a1, a2⟩, a3, a4, a5⟩ := vl_tm_c.mp htm
    obtain ⟨V, Y, ⟨b1, b2⟩, b3, b4⟩ := vq_bm_c.mp hbm
    obtain ⟨A', B', d1, d2, d3⟩ := rf_gt_2.mp hgt
    subst a3
    obtain ⟨e1, e2⟩ := vk_sh_a d1
    subst e1 e2
    subst b2
    have o1 := one hs hl hlt hen hlk.1 d2 b3 (fun a b c => hoc a b (vq_oc_sb b1 (Or.inl c))) a4 e e' K ha
    have o2 := hx.2 hs hl hlt hen hlk.2 d3 b4 (fun a b c => hoc a b (vq_oc_sb b1 (Or.inr c))) a5 e e' K ha
    obtain ⟨p1, p2, p3, G, rfl⟩ := b1
    obtain ⟨p1', p2', p3', G', rfl⟩ := a1
    rw [a2]
    show vx_val th AR (.inner p1 (p2, p3) () G Y) e K = vx_val th AR' (.inner p1' (p2', p3') () G' X) e' K
    rw [vx_val_1 hon, vx_val_1 hon p1', o2]
    have t : vx_val th AR (.inner p1 (p2, p3) () G .leaf) e K = vx_val th AR' (.inner p1' (p2', p3') () G' .leaf) e' K := o1
    rw [t]
end VKV
