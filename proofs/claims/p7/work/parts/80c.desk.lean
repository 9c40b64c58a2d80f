/-! ===== the desk: what its calls leave of the loaded text ===== -/
theorem c_dload3 {sL : Nat} {sx : Nat → Int32} (hsL : sL ≤ 3072) (d : Nat) (hd : 165 ≤ d) : ∀ (a0 : Int) (s : sx_S) (K : Int → sx_S → Prop), cx_I s → (-2147483648 ≤ a0 ∧ a0 ≤ 2147483647) → (∀ (z : Int) (t : sx_S), cx_I t → cx_F [(0, 28)] s t → (-2147483648 ≤ z ∧ z ≤ 2147483647) → (((a0 < 0 ∨ s.1 0 1 < a0) ∧ t.1 0 1 = s.1 0 1) ∨ (0 ≤ a0 ∧ a0 ≤ s.1 0 1 ∧ t.1 0 1 = 0 ∧ (z = 0 ∧ t.1 0 2 = 1 ∧ t.1 0 3 = -1 ∨ z ≠ 0 ∧ t.1 0 2 = 0))) → K z t) → sx_C sL sx d 138 [.inr (.inl 0), .inl a0] s K := by
  intro a0 s K hI p0 hK
  obtain ⟨d, rfl⟩ : ∃ e, d = e + 2 := ⟨d - 2, by omega⟩
  exact sx_meth (wr := true) (n := 400) hsL (e := eX11_load) rfl (w_dload3 (Q := fun _ _ _ => False) (fun a0 s K h1 h2 hK => c_tkreadD hsL (d + 1) (by omega) a0 s K h1 h2 (fun z t t1 t2 t3 => hK z t t1 t2 ⟨t3.1, t3.2, congrFun (t2.same 0 rfl).1 3⟩)) (fun s K h1 hK => c_gacceptsD hsL (d + 1) (by omega) s K h1 (fun z t t1 t2 t4 t3 => hK z t t1 t2 t4 ⟨t3.1, t3.2, congrFun (t2.same 0 rfl).1 3⟩)) (c_gplace hsL (d + 1) (by omega)) (fun s K h1 hK => c_cacceptsD hsL (d + 1) (by omega) s K h1 (fun z t t1 t2 t4 t3 => hK z t t1 t2 t4 ⟨t3.1, t3.2, congrFun (t2.same 0 rfl).1 3⟩)) (c_chplace hsL (d + 1) (by omega)) (c_chnumber hsL (d + 1) (by omega)) hI p0 hK)
theorem c_dsizeF {sL : Nat} {sx : Nat → Int32} (hsL : sL ≤ 3072) (d : Nat) (hd : 14 ≤ d) : ∀ (a0 : Int) (s : sx_S) (K : Int → sx_S → Prop), cx_I s → (-2147483648 ≤ a0 ∧ a0 ≤ 2147483647) → (∀ (z : Int) (t : sx_S), cx_I t → cx_F [(29, 37), (55, 65)] s t → (-2147483648 ≤ z ∧ z ≤ 2147483647) → (t.1 0 1 = s.1 0 1 ∧ t.1 0 2 = s.1 0 2) → K z t) → sx_C sL sx d 143 [.inr (.inl 0), .inl a0] s K := by
  intro a0 s K hI p0 hK
  obtain ⟨d, rfl⟩ : ∃ e, d = e + 2 := ⟨d - 2, by omega⟩
  exact sx_meth (wr := true) (n := 400) hsL (e := eX11_size) rfl (w_dsizeF (Q := fun _ _ _ => False) (c_hasSolution hsL (d + 1) (by omega)) (c_wwriteD hsL (d + 1) (by omega)) (c_chunknownRoot hsL (d + 1) (by omega)) hI p0 hK)
theorem c_dletterF {sL : Nat} {sx : Nat → Int32} (hsL : sL ≤ 3072) (d : Nat) (hd : 14 ≤ d) : ∀ (a0 a1 : Int) (s : sx_S) (K : Int → sx_S → Prop), cx_I s → (-2147483648 ≤ a0 ∧ a0 ≤ 2147483647) → (-2147483648 ≤ a1 ∧ a1 ≤ 2147483647) → (∀ (z : Int) (t : sx_S), cx_I t → cx_F [(29, 37), (55, 65)] s t → (-2147483648 ≤ z ∧ z ≤ 2147483647) → (t.1 0 1 = s.1 0 1 ∧ t.1 0 2 = s.1 0 2) → K z t) → sx_C sL sx d 144 [.inr (.inl 0), .inl a0, .inl a1] s K := by
  intro a0 a1 s K hI p0 p1 hK
  obtain ⟨d, rfl⟩ : ∃ e, d = e + 2 := ⟨d - 2, by omega⟩
  exact sx_meth (wr := true) (n := 400) hsL (e := eX11_letter) rfl (w_dletterF (Q := fun _ _ _ => False) (c_hasSolution hsL (d + 1) (by omega)) (c_wwriteD hsL (d + 1) (by omega)) (c_chunknownRoot hsL (d + 1) (by omega)) (c_wbyteAt hsL (d + 1) (by omega)) hI p0 p1 hK)
theorem c_dsideF {sL : Nat} {sx : Nat → Int32} (hsL : sL ≤ 3072) (d : Nat) (hd : 14 ≤ d) : ∀ (a0 a1 : Int) (s : sx_S) (K : Int → sx_S → Prop), cx_I s → (-2147483648 ≤ a0 ∧ a0 ≤ 2147483647) → (-2147483648 ≤ a1 ∧ a1 ≤ 2147483647) → (∀ (z : Int) (t : sx_S), cx_I t → cx_F [(29, 37), (55, 65)] s t → (-2147483648 ≤ z ∧ z ≤ 2147483647) → (t.1 0 1 = s.1 0 1 ∧ t.1 0 2 = s.1 0 2) → K z t) → sx_C sL sx d 145 [.inr (.inl 0), .inl a0, .inl a1] s K := by
  intro a0 a1 s K hI p0 p1 hK
  obtain ⟨d, rfl⟩ : ∃ e, d = e + 2 := ⟨d - 2, by omega⟩
  exact sx_meth (wr := true) (n := 400) hsL (e := eX11_side) rfl (w_dsideF (Q := fun _ _ _ => False) (c_hasSolution hsL (d + 1) (by omega)) (c_wwriteD hsL (d + 1) (by omega)) (c_chsideRoot hsL (d + 1) (by omega)) hI p0 p1 hK)
theorem c_dsideLetterF {sL : Nat} {sx : Nat → Int32} (hsL : sL ≤ 3072) (d : Nat) (hd : 14 ≤ d) : ∀ (a0 a1 a2 : Int) (s : sx_S) (K : Int → sx_S → Prop), cx_I s → (-2147483648 ≤ a0 ∧ a0 ≤ 2147483647) → (-2147483648 ≤ a1 ∧ a1 ≤ 2147483647) → (-2147483648 ≤ a2 ∧ a2 ≤ 2147483647) → (∀ (z : Int) (t : sx_S), cx_I t → cx_F [(29, 37), (55, 65)] s t → (-2147483648 ≤ z ∧ z ≤ 2147483647) → (t.1 0 1 = s.1 0 1 ∧ t.1 0 2 = s.1 0 2) → K z t) → sx_C sL sx d 146 [.inr (.inl 0), .inl a0, .inl a1, .inl a2] s K := by
  intro a0 a1 a2 s K hI p0 p1 p2 hK
  obtain ⟨d, rfl⟩ : ∃ e, d = e + 2 := ⟨d - 2, by omega⟩
  exact sx_meth (wr := true) (n := 400) hsL (e := eX11_sideLetter) rfl (w_dsideLetterF (Q := fun _ _ _ => False) (c_hasSolution hsL (d + 1) (by omega)) (c_wwriteD hsL (d + 1) (by omega)) (c_chsideRoot hsL (d + 1) (by omega)) (c_wbyteAt hsL (d + 1) (by omega)) hI p0 p1 p2 hK)
theorem px_an_fun {b : Nat → Int} {n z z' : Int} (h : px_an b n z) (h' : px_an b n z') : z = z' := by
  rcases h with ⟨h1, h2⟩ | ⟨l, h1, h2⟩ <;> rcases h' with ⟨g1, g2⟩ | ⟨l', g1, g2⟩
  · omega
  · exact absurd g1 (h2 l')
  · exact absurd h1 (g2 l)
  · obtain rfl := px_TX_fun h1 g1
    rcases h2 with ⟨h2, h3⟩ | ⟨h2, h3⟩ <;> rcases g2 with ⟨g2, g3⟩ | ⟨g2, g3⟩
    · omega
    · exact absurd h3 g3
    · exact absurd g3 h3
    · omega
theorem px_an_r {b : Nat → Int} {n z : Int} (h : px_an b n z) : -3 ≤ z ∧ z ≤ 0 := by
  rcases h with ⟨h1, _⟩ | ⟨l, _, ⟨h1, _⟩ | ⟨h1, _⟩⟩ <;> omega
theorem c_D_load {sL : Nat} {sx : Nat → Int32} (hsL : sL ≤ 3072) (d : Nat) (hd : 170 ≤ d) : ∀ (a0 : Int) (s : sx_S) (K : Int → sx_S → Prop), cx_I s → (-2147483648 ≤ a0 ∧ a0 ≤ 2147483647) → (a0 < 0 ∨ s.1 0 1 < a0 → K (-1) s) → (0 ≤ a0 → a0 ≤ s.1 0 1 → ∀ z t, cx_I t → cx_F [(0, 28)] s t → t.1 0 1 = 0 → px_an (s.2.1 1) a0 z → ((z = 0 ∧ t.1 0 2 = 1 ∧ t.1 0 3 = -1 ∧ ∃ l, px_TX (px_K (s.2.1 1) a0) l 0 ∧ dl_LD (s.2.1 1) a0 l t) ∨ (z ≠ 0 ∧ t.1 0 2 = 0)) → K z t) → sx_C sL sx d 138 [.inr (.inl 0), .inl a0] s K := by
  intro a0 s K hI ra hN hK
  obtain ⟨d, rfl⟩ : ∃ e, d = e + 3 := ⟨d - 3, by omega⟩
  have hL : ∀ K' : Int → sx_S → Prop, (∀ (z : Int) (t : sx_S), (((a0 < 0 ∨ s.1 0 1 < a0) ∧ z = -1 ∧ t = s) ∨ ((0 ≤ a0 ∧ a0 ≤ s.1 0 1) ∧ px_an (s.2.1 1) a0 z ∧ (z = 0 → cx_I t ∧ ∃ l, px_TX (px_K (s.2.1 1) a0) l 0 ∧ px_ck (px_SN (s.2.1 1) a0) l [] [] 0 ∧ (t.1 19 2 = (px_c3 3 l : Int) ∧ t.1 22 2 = (px_c3 4 l : Int) ∧ t.1 18 10 = (px_c3 5 l : Int)) ∧ ∃ bb, px_SN bb a0 = px_SN (s.2.1 1) a0 ∧ dz_E bb a0 (vl_kf l []) (vl_mf l []) t ∧ dl_pr (s.2.1 1) a0 (vl_eq l [] []) t ∧ t.1 11 6 ≤ 960))) → K' z t) → sx_C sL sx (d + 1 + 2) 138 [.inr (.inl 0), .inl a0] s K' := fun K' hK' => st_dl_load hsL (d := d + 1) (by omega) (fun b n => st_dl_acc hsL (d := d) (by omega) b n (fun a0 a1 s K h1 h2 h3 hK => c_nodeC hsL (d + 1) (by omega) a0 a1 s K h1 h2 h3 (fun z t t1 t2 t3 _ _ _ _ => hK z t t1 ⟨by rw [(t2.same 18 rfl).1], by rw [(t2.same 19 rfl).1], by rw [(t2.same 22 rfl).1]⟩ t3)) (fun a0 a1 s K h1 h2 h3 hK => c_completeC hsL (d + 1) (by omega) a0 a1 0 s K h1 h2 h3 (by omega) (fun z t t1 t2 t3 _ _ _ _ => hK z t t1 ⟨by rw [(t2.same 18 rfl).1], by rw [(t2.same 19 rfl).1], by rw [(t2.same 22 rfl).1]⟩ t3))) a0 s K' hI ra hK'
  have r01 := hI.fld 0 1 (by decide) rfl
  by_cases hx : 0 ≤ a0 ∧ a0 ≤ s.1 0 1
  · refine sx_bothM (e := eX11_load) rfl (c_dload3 hsL (d + 3) (by omega) a0 s (fun z t => cx_I t ∧ cx_F [(0, 28)] s t ∧ (-2147483648 ≤ z ∧ z ≤ 2147483647) ∧ t.1 0 1 = 0 ∧ (z = 0 ∧ t.1 0 2 = 1 ∧ t.1 0 3 = -1 ∨ z ≠ 0 ∧ t.1 0 2 = 0)) hI ra (fun z t t1 t2 t3 t4 => ⟨t1, t2, t3, ?_⟩)) (hL (fun z t => px_an (s.2.1 1) a0 z ∧ (z = 0 → cx_I t ∧ ∃ l, px_TX (px_K (s.2.1 1) a0) l 0 ∧ px_ck (px_SN (s.2.1 1) a0) l [] [] 0 ∧ (t.1 19 2 = (px_c3 3 l : Int) ∧ t.1 22 2 = (px_c3 4 l : Int) ∧ t.1 18 10 = (px_c3 5 l : Int)) ∧ ∃ bb, px_SN bb a0 = px_SN (s.2.1 1) a0 ∧ dz_E bb a0 (vl_kf l []) (vl_mf l []) t ∧ dl_pr (s.2.1 1) a0 (vl_eq l [] []) t ∧ t.1 11 6 ≤ 960)) (fun z t h => ?_)) (fun z1 t1 z2 t2 k1 k2 hz hh => ?_)
    · rcases t4 with ⟨q, _⟩ | ⟨_, _, q⟩
      · omega
      · exact q
    · rcases h with ⟨q, _⟩ | ⟨_, q⟩
      · omega
      · exact q
    · obtain ⟨c1, c2, c3, c4, c5⟩ := k1
      obtain ⟨k2, k3⟩ := k2
      have hr := px_an_r k2
      have ez : z1 = z2 := sx_vo_int hz c3 (by omega)
      rw [← ez] at k2 k3
      rcases c5 with ⟨c5, c6, c7⟩ | ⟨c5, c6⟩
      · obtain ⟨q0, l, q1, q2, ⟨q3, q4, q5⟩, bb, q6, q7, q8, q9⟩ := k3 c5
        have o0 := sx_mg_out (a := t1) (b := t2) (Or.inl (rfl : (0 : Nat) = 0))
        refine ⟨sx_mg t1 t2, sx_mg_hp hh, rfl, hK hx.1 hx.2 z1 _ (sx_mg_I c1 q0) (sx_mg_F c2) (by rw [o0.1]; exact c4) k2 (Or.inl ⟨c5, by rw [o0.1]; exact c6, by rw [o0.1]; exact c7, l, q1, ?_⟩)⟩
        exact dl_LD_c (fun p h1 h2 => sx_mg_in (by omega) h2) (dl_LD_mk ⟨hx.1, by omega⟩ q1 q2 q5 q7 q8 q9)
      · exact ⟨t1, rfl, rfl, hK hx.1 hx.2 z1 t1 c1 c2 c4 k2 (Or.inr ⟨c5, c6⟩)⟩
  · refine hL K (fun z t h => ?_)
    rcases h with ⟨q1, q2, q3⟩ | ⟨q, _⟩
    · rw [q2, q3]
      exact hN q1
    · exact absurd q hx
