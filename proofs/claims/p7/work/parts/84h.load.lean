/-! ===== the desk's load, for what solve numbers ===== -/
theorem dw_LD_c {b : Nat → Int} {n : Int} {l : List vl_I} {s t : sx_S} (h : ∀ p, 2 ≤ p → p ≤ 28 → t.1 p = s.1 p ∧ t.2.1 p = s.2.1 p) (g : dw_LD b n l s) : dw_LD b n l t := by
  have a8 := (h 8 (by decide) (by decide)).1
  have b9 := (h 9 (by decide) (by decide)).2
  have b10 := (h 10 (by decide) (by decide)).2
  exact dw_LD_F (fun bb C M q => dz_E_c h q) (h 11 (by decide) (by decide)).1 (fun k h1 h2 => (h k (by omega) (by omega)).2) (h 25 (by decide) (by decide)).2 (h 26 (by decide) (by decide)).2 (by rw [(h 18 (by decide) (by decide)).1]) (fun j => ⟨by rw [a8]; exact Int.le_refl _, fun _ => ⟨by rw [b9], by rw [b10]⟩⟩) g
theorem c_DW_load {sL : Nat} {sx : Nat → Int32} (hsL : sL ≤ 3072) (d : Nat) (hd : 170 ≤ d) : ∀ (a0 : Int) (s : sx_S) (K : Int → sx_S → Prop), cx_I s → (-2147483648 ≤ a0 ∧ a0 ≤ 2147483647) → (a0 < 0 ∨ s.1 0 1 < a0 → K (-1) s) → (0 ≤ a0 → a0 ≤ s.1 0 1 → ∀ z t, cx_I t → cx_F [(0, 28)] s t → t.1 0 1 = 0 → px_an (s.2.1 1) a0 z → ((z = 0 ∧ t.1 0 2 = 1 ∧ t.1 0 3 = -1 ∧ ∃ l, px_TX (px_K (s.2.1 1) a0) l 0 ∧ dw_LD (s.2.1 1) a0 l t) ∨ (z ≠ 0 ∧ t.1 0 2 = 0)) → K z t) → sx_C sL sx d 138 [.inr (.inl 0), .inl a0] s K := by
  intro a0 s K hI ra hN hK
  obtain ⟨d, rfl⟩ : ∃ e, d = e + 3 := ⟨d - 3, by omega⟩
  have hL : ∀ K' : Int → sx_S → Prop, (∀ (z : Int) (t : sx_S), (((a0 < 0 ∨ s.1 0 1 < a0) ∧ z = -1 ∧ t = s) ∨ ((0 ≤ a0 ∧ a0 ≤ s.1 0 1) ∧ px_an (s.2.1 1) a0 z ∧ (z = 0 → cx_I t ∧ ∃ l, px_TX (px_K (s.2.1 1) a0) l 0 ∧ px_ck (px_SN (s.2.1 1) a0) l [] [] 0 ∧ (t.1 19 2 = (px_c3 3 l : Int) ∧ t.1 22 2 = (px_c3 4 l : Int) ∧ t.1 18 10 = (px_c3 5 l : Int)) ∧ ∃ bb, px_SN bb a0 = px_SN (s.2.1 1) a0 ∧ dz_E bb a0 (vl_kf l []) (vl_mf l []) t ∧ dl_pr (s.2.1 1) a0 (vl_eq l [] []) t ∧ t.1 11 6 ≤ 960 ∧ dw_ro (vl_mf l []) (vl_mf l []).length t))) → K' z t) → sx_C sL sx (d + 1 + 2) 138 [.inr (.inl 0), .inl a0] s K' := fun K' hK' => st_dw_load hsL (d := d + 1) (by omega) (fun b n => st_dw_acc hsL (d := d) (by omega) b n (fun a0 a1 s K h1 h2 h3 hK => c_nodeC hsL (d + 1) (by omega) a0 a1 s K h1 h2 h3 (fun z t t1 t2 t3 _ _ _ _ => hK z t t1 ⟨by rw [(t2.same 18 rfl).1], by rw [(t2.same 19 rfl).1], by rw [(t2.same 22 rfl).1]⟩ t3)) (fun a0 a1 s K h1 h2 h3 hK => c_completeC hsL (d + 1) (by omega) a0 a1 0 s K h1 h2 h3 (by omega) (fun z t t1 t2 t3 _ _ _ _ => hK z t t1 ⟨by rw [(t2.same 18 rfl).1], by rw [(t2.same 19 rfl).1], by rw [(t2.same 22 rfl).1]⟩ t3))) a0 s K' hI ra hK'
  have r01 := hI.fld 0 1 (by decide) rfl
  by_cases hx : 0 ≤ a0 ∧ a0 ≤ s.1 0 1
  · refine sx_bothM (e := eX11_load) rfl (c_dload3 hsL (d + 3) (by omega) a0 s (fun z t => cx_I t ∧ cx_F [(0, 28)] s t ∧ (-2147483648 ≤ z ∧ z ≤ 2147483647) ∧ t.1 0 1 = 0 ∧ (z = 0 ∧ t.1 0 2 = 1 ∧ t.1 0 3 = -1 ∨ z ≠ 0 ∧ t.1 0 2 = 0)) hI ra (fun z t t1 t2 t3 t4 => ⟨t1, t2, t3, ?_⟩)) (hL (fun z t => px_an (s.2.1 1) a0 z ∧ (z = 0 → cx_I t ∧ ∃ l, px_TX (px_K (s.2.1 1) a0) l 0 ∧ px_ck (px_SN (s.2.1 1) a0) l [] [] 0 ∧ (t.1 19 2 = (px_c3 3 l : Int) ∧ t.1 22 2 = (px_c3 4 l : Int) ∧ t.1 18 10 = (px_c3 5 l : Int)) ∧ ∃ bb, px_SN bb a0 = px_SN (s.2.1 1) a0 ∧ dz_E bb a0 (vl_kf l []) (vl_mf l []) t ∧ dl_pr (s.2.1 1) a0 (vl_eq l [] []) t ∧ t.1 11 6 ≤ 960 ∧ dw_ro (vl_mf l []) (vl_mf l []).length t)) (fun z t h => ?_)) (fun z1 t1 z2 t2 k1 k2 hz hh => ?_)
    · rcases t4 with ⟨q, _⟩ | ⟨_, _, q⟩
      · omega
      · exact q
    · rcases h with ⟨q, _⟩ | ⟨_, q⟩
      · omega
      · exact q
    · obtain ⟨c1, c2, c3, c4, c5⟩ := k1
      obtain ⟨k2, k3⟩ := k2
      have hr := px_an_r k2
      have ez : z1 = z2 := sx_vo_int hz c3 (by omega)
      rw [← ez] at k2 k3
      rcases c5 with ⟨c5, c6, c7⟩ | ⟨c5, c6⟩
      · obtain ⟨q0, l, q1, q2, ⟨q3, q4, q5⟩, bb, q6, q7, q8, q9, q10⟩ := k3 c5
        have o0 := sx_mg_out (a := t1) (b := t2) (Or.inl (rfl : (0 : Nat) = 0))
        refine ⟨sx_mg t1 t2, sx_mg_hp hh, rfl, hK hx.1 hx.2 z1 _ (sx_mg_I c1 q0) (sx_mg_F c2) (by rw [o0.1]; exact c4) k2 (Or.inl ⟨c5, by rw [o0.1]; exact c6, by rw [o0.1]; exact c7, l, q1, ?_⟩)⟩
        exact dw_LD_c (fun p h1 h2 => sx_mg_in (by omega) h2) (fun _ => ⟨dl_LD_mk ⟨hx.1, by omega⟩ q1 q2 q5 q7 q8 q9, q10⟩)
      · exact ⟨t1, rfl, rfl, hK hx.1 hx.2 z1 t1 c1 c2 c4 k2 (Or.inr ⟨c5, c6⟩)⟩
  · refine hL K (fun z t h => ?_)
    rcases h with ⟨q1, q2, q3⟩ | ⟨q, _⟩
    · rw [q2, q3]
      exact hN q1
    · exact absurd q hx
