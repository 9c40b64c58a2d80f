/-! ===== what equation leaves: sides with the values of the text's ===== -/
theorem vq_oc_no {K R F X : Nat → Int} {B : Int} : ∀ {N : rf_N} {z : Int} {i : Nat} {m : Int}, rf_nd K R F X B N z → vq_oc N i m → R i = m
  | .leaf, _, _, _, _, h => h.elim
  | .inner j k _ f x, z, i, m, ⟨_, ⟨_, h2⟩, h3, h4⟩, h => by
    rcases h with ⟨_, e1, e2⟩ | h | h
    · rw [← e1, ← e2]
      exact h2
    · exact vq_oc_no h3 h
    · exact vq_oc_no h4 h
def vk_RX (s : sx_S) (i : Nat) (m : Int) (ws : List Int) : Prop := vq_RW s i m ws ∧ s.2.1 101 i = m ∧ 0 ≤ m ∧ m < s.1 66 45
/-- nodes, rows, unknowns and types stay -/
def vk_U (s t : sx_S) : Prop := True → (s.1 66 50 ≤ t.1 66 50 ∧ s.1 66 56 ≤ t.1 66 56 ∧ s.1 66 45 ≤ t.1 66 45 ∧ rf_tu s t) ∧ rf_ag 100 103 (s.1 66 50) s t ∧ ∀ j : Nat, ((j : Int) < s.1 66 50 → t.2.1 104 j = s.2.1 104 j) ∧ ((j : Int) < s.1 66 56 → t.2.1 105 j = s.2.1 105 j) ∧ ((j : Int) < s.1 66 45 → t.2.1 123 j = s.2.1 123 j)
theorem vk_U_Q {s t : sx_S} (ha : rf_ag 100 103 (s.1 66 50) s t) (hx : rf_xu s t) : vk_U s t := fun _ => by
  have e := (hx.2 0).1
  exact ⟨⟨e.2.2.1, e.2.1, Int.le_of_eq e.2.2.2.2.symm, hx.1⟩, ha, fun j => ⟨(hx.2 j).2.2.2.1, (hx.2 j).2.2.1, fun _ => (hx.2 j).2.2.2.2.2⟩⟩
theorem vk_U_D {s t : sx_S} (hF : cx_F [(66, 66), (95, 97), (123, 123)] s t) (hf : rf_f [40, 41, 42, 45] s t) (h45 : s.1 66 45 ≤ t.1 66 45) (h123 : rf_ag 123 123 (s.1 66 45) s t) : vk_U s t := fun _ => by
  have e9 := hf 9 rfl
  refine ⟨⟨Int.le_of_eq (hf 50 rfl).symm, Int.le_of_eq (hf 56 rfl).symm, h45, fun j => ⟨Int.le_of_eq e9.symm, fun _ => ⟨by rw [(hF.same 72 rfl).2], by rw [(hF.same 73 rfl).2]⟩⟩⟩, fun p j h1 h2 h3 => ?_, fun j => ⟨fun _ => by rw [(hF.same 104 rfl).2], fun _ => by rw [(hF.same 105 rfl).2], fun h => h123 123 j (by omega) (by omega) h⟩⟩
  obtain rfl | rfl | rfl | rfl : p = 100 ∨ p = 101 ∨ p = 102 ∨ p = 103 := by omega
  · rw [(hF.same 100 rfl).2]
  · rw [(hF.same 101 rfl).2]
  · rw [(hF.same 102 rfl).2]
  · rw [(hF.same 103 rfl).2]
theorem vk_RX_up {s t : sx_S} (h : vk_U s t) {i : Nat} {m : Int} {ws : List Int} (g : vk_RX s i m ws) : vk_RX t i m ws := by
  obtain ⟨⟨u1, u2, u3, u4⟩, ua, uj⟩ := h trivial
  obtain ⟨⟨⟨g1, ⟨g2, g3⟩, g4⟩, x, g5, g6⟩, g7, g8, g9⟩ := g
  have e := (uj i).1 g1
  refine ⟨⟨⟨by omega, ⟨by omega, by omega⟩, ?_⟩, x, ?_, g6⟩, by rw [ua 101 i (by omega) (by omega) g1]; exact g7, g8, by omega⟩
  · rw [e, ← g4]
    rw [rf_rl_len]
    exact rf_rl_eq (fun q hq => (uj _).2.1 (by omega))
  · rw [(uj m.toNat).2.2 (by omega)]
    exact rf_is_up g5 u4
/-- the tree at z has the values of the desk's trees of this TERM -/
def vk_sd (SN : Int → Int → Prop) (C M : List (Int × qx_T)) (n : px_N) (s : sx_S) (z : Int) : Prop := ∃ N, (rf_no s N z ∧ vr_1 N = N) ∧ ∀ (th : Int → rf_N) (AR : Nat → List Int), (∀ m, vx_on (th m)) → (∀ i m ws, vk_RX s i m ws → AR i = ws) → ∀ (TV : Int → qx_T → Prop) (AR' : Nat → List Int) (W : rf_N) (x : qx_T) (e e' : Int → Int) (L : Int), (vl_tm SN C M TV AR' n).1 W [] [] x → vx_val th AR N e L = vx_val th AR' W e' L
theorem vk_sd_up {s t : sx_S} (h : vk_U s t) {SN : Int → Int → Prop} {C M : List (Int × qx_T)} {n : px_N} {z : Int} (g : vk_sd SN C M n s z) : vk_sd SN C M n t z := by
  obtain ⟨N, ⟨h1, h3⟩, h2⟩ := g
  exact ⟨N, ⟨rf_no_up (h trivial).2.1 (h trivial).1.1 h1, h3⟩, fun th AR hon hAR => h2 th AR hon (fun i m ws q => hAR i m ws (vk_RX_up h q))⟩
theorem vk_cf_e {SN : Int → Int → Prop} {a : Int} : ∀ {Γ : List (Int × qx_T)} {k : Nat} {x : qx_T}, px_cf SN Γ a k x → ∃ q, Γ[k]? = some q ∧ q.2 = x
  | [], _, _, h => h.elim
  | q :: Γ, k, x, h => by
    rcases h with ⟨_, h2, h3⟩ | ⟨_, j, h2, h3⟩
    · subst h2
      exact ⟨q, rfl, h3.symm⟩
    · obtain ⟨q', e1, e2⟩ := vk_cf_e h3
      subst h2
      exact ⟨q', by rw [List.getElem?_cons_succ]; exact e1, e2⟩
theorem vk_DL {p q f : Nat} {m : Int} {u s : sx_S} {L : List (Int × qx_T)} {SN : Int → Int → Prop} (hD : px_DL p q f m u L) (tu : rf_tu u s) (h9 : 2 ≤ s.1 66 9) (hq : ∀ j, s.2.1 q j = u.2.1 q j) : ∀ a k x A, px_cf SN L a k x → rf_is s A (s.2.1 q k) → A = qx_sh x := fun a k x A h1 h2 => by
  obtain ⟨e, e1, e2⟩ := vk_cf_e h1
  have hk : k < L.length := (List.getElem?_eq_some_iff.mp e1).1
  obtain ⟨e', d1, _, _, d4⟩ := (hD trivial).2 k hk
  have ee : e' = e := Option.some.inj (d1.symm.trans e1)
  rw [ee, e2] at d4
  rw [hq k] at h2
  exact rf_ty_inj h2 (qx_ty_sh h9 (qx_is_up d4 tu))
theorem vk_sd_mk {b : Nat → Int} {n mt : Int} {C M : List (Int × qx_T)} {u s t : sx_S} (hE : px_E b n mt C M u) (x0 : rf_xu u s) (h9 : 2 ≤ s.1 66 9) (x1 : rf_xu s t) (h84 : t.2.1 84 = s.2.1 84) {m N : rf_N} {p : px_N} {y : qx_T} {z : Int} (hw : (px_wt (px_SN b n) C M p).1 [] y) (hg : (rf_gt (rf_RH s) (rf_RP s) m).1 (qx_sh y)) (hl : (vk_lk (px_SN b n) C M m p).1 [] []) (hN : rf_no t N z) (hb : (vq_bm (rf_RP t) (vq_RW t) (s.1 66 58) m).1 N) : vk_sd (px_SN b n) C M p t z := by
  obtain ⟨_, hC, hM⟩ := hE trivial
  refine ⟨N, ⟨hN, vq_bm_c1.1 N hb⟩, fun th AR hon hAR TV AR' W x e e' L htm => ?_⟩
  have ex := vk_tm_wt.1 htm hw
  subst ex
  refine (vk_val (s := s) (RP := rf_RP t) (RW := vq_RW t) (OC := vq_oc N) hon (vk_DL hC x0.1 h9 (fun j => (x0.2 j).2.2.2.2.1)) (vk_DL hM x0.1 h9 (fun j => (x0.2 j).2.2.2.2.2)) (fun j y y' h1 h2 => ?_) (fun i m ws h1 h2 h3 => hAR i m ws ⟨h1, vq_oc_no hN h2, h3.1, by have := (x1.2 0).1.2.2.2.2; omega⟩)).1 (Γ := []) (ρ := []) (ρ' := []) trivial rfl (fun v hv => absurd hv List.not_mem_nil) vk_en_0 hl hg hb (fun _ _ q => q) htm e e' L ⟨rfl, fun l hl => absurd hl (Nat.not_lt_zero _)⟩
  unfold rf_RP at h1 h2
  rw [h84] at h2
  exact rf_ty_inj h2 (rf_is_up h1 x1.1)
theorem vk_Q2 {b : Nat → Int} {n : Int} {C M : List (Int × qx_T)} {tl tr : px_N} {u t : sx_S} {NL NR : rf_N} {x2 z : Int} (h1 : vk_C1 b n C M [] [] tl u NL x2) (u40 : u.1 66 40 = 0) (h2 : vk_C1 b n C M [] [] tr t NR z) (tu : rf_tu u t) : (t.1 66 40 = 0 → ∃ y1 y2, (px_wt (px_SN b n) C M tl).1 [] y1 ∧ (px_wt (px_SN b n) C M tr).1 [] y2 ∧ qx_is t y1 x2 ∧ qx_is t y2 z ∧ (vk_lk (px_SN b n) C M NL tl).1 [] [] ∧ (vk_lk (px_SN b n) C M NR tr).1 [] []) ∧ (t.1 66 40 ≠ 0 → ¬ ∃ x, (px_wt (px_SN b n) C M tl).1 [] x ∧ (px_wt (px_SN b n) C M tr).1 [] x) := by
  refine ⟨fun e => ?_, fun e ⟨x, _, h⟩ => (h2 trivial).2 e x h⟩
  obtain ⟨y1, a1, a2, a3⟩ := (h1 trivial).1 u40
  obtain ⟨y2, b1, b2, b3⟩ := (h2 trivial).1 e
  exact ⟨y1, y2, a1, b1, qx_is_up a2 tu, b2, a3, b3⟩
