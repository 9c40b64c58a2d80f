/-! ===== steps of solving, pure: an unknown is narrowed, an unknown is given a body ===== -/
/-- in the solutions: what is allowed of a call is allowed of the body -/
theorem vx_K_body {S : vx_S} {th : Int → rf_N} {al : Int → Prop} {j : Nat} {m : Int} {F B : rf_N} {e em e' : Int → Int} (hS : vx_So S th) (hb : S.2.2.2.1 m = some (B, em)) (hP : ∀ z, 0 ≤ em z → e' z = ((S.2.2.2.2 j).map e).getD (em z).toNat (-1)) (hl : ∀ z, em z < ((S.2.2.2.2 j).length : Int)) (h : vx_OK (vx_us th) S.2.2.2.2 al (rf_n j 3 m F .leaf, e)) : vx_OK (vx_us th) S.2.2.2.2 al (B, e') := fun z hz => by
  have h1 := vx_fv_oc hS.1 (e := em) (L := S.2.2.1 m) hz
  rw [← hS.2.2 m B em hb] at h1
  have h0 := (hS.1 m).2 _ h1
  have h2 := hl z
  have hi : (em z).toNat < (S.2.2.2.2 j).length := by omega
  have h3 := vx_OK_call.mp h (em z).toNat _ (List.getElem?_eq_getElem hi) (by
    show vx_oc (((em z).toNat : Nat) : Int) (th m)
    rw [Int.toNat_of_nonneg h0]
    exact h1)
  show al (e' z)
  rw [hP z h0, vx_getD_map e _ _ hi, vx_gD hi]
  exact h3
/-- how large the value is -/
def vx_zz (th : Int → rf_N) : rf_N → Nat
  | .leaf => 0
  | .inner _ q _ F X => (if q.1 = 3 then vx_sz (th q.2) else 1 + vx_zz th F) + vx_zz th X
theorem vx_zz_in (th : Int → rf_N) (j : Nat) (q : Int × Int) (u : Unit) (F X : rf_N) : vx_zz th (.inner j q u F X) = (if q.1 = 3 then vx_sz (th q.2) else 1 + vx_zz th F) + vx_zz th X := rfl
theorem vx_sz_sb {a X : rf_N} (h : vx_on a) : vx_sz (vx_sb a X) = vx_sz a + vx_sz X := by
  obtain ⟨k, h, F, rfl⟩ := h
  show 1 + vx_sz F + vx_sz X = 1 + vx_sz F + 0 + vx_sz X
  omega
theorem vx_sz_val {th : Int → rf_N} {AR : Nat → List Int} (hg : ∀ m, vx_on (th m)) : ∀ {A : rf_N} {e : Int → Int} {L : Int}, vx_sz (vx_val th AR A e L) = vx_zz th A
  | .leaf, _, _ => rfl
  | .inner j q u F X, e, L => by
    have hX := vx_sz_val (AR := AR) hg (A := X) (e := e) (L := L)
    rw [vx_val_in, vx_zz_in]
    by_cases h0 : q.1 = 0
    · rw [if_pos h0, if_neg (by omega)]
      show 1 + vx_sz _ + vx_sz _ = _
      rw [vx_sz_val hg, hX]
    · rw [if_neg h0]
      by_cases h3 : q.1 = 3
      · rw [if_pos h3, if_pos h3, vx_sz_sb (vx_re_on (hg _)), vx_sz_re, hX]
      · rw [if_neg h3, if_neg h3]
        show 1 + vx_sz _ + vx_sz _ = _
        rw [vx_sz_val hg, hX]
theorem vx_zz_el {th : Int → rf_N} {A : rf_N} : ∀ {F : rf_N}, A ∈ vx_el F → vx_zz th A ≤ vx_zz th F
  | .leaf, h => absurd h List.not_mem_nil
  | .inner j q u F X, h => by
    rcases List.mem_cons.mp h with rfl | h
    · rw [vx_zz_in, vx_zz_in]
      show _ + 0 ≤ _
      omega
    · have := vx_zz_el (th := th) h
      rw [vx_zz_in]
      omega
/-- the unknown x gets a new one in its place: S becomes T -/
def vx_nw (S T : vx_S) (x : Int) (j : Nat) (F : rf_N) (eu : Int → Int) (zs ks : List Int) : Prop := (T.1 = S.1 + 1 ∧ S.2.1 ≤ T.2.1 ∧ S.2.1 ≤ (j : Int) ∧ (j : Int) < T.2.1 ∧ ∀ i ∈ rf_idx F, (i : Int) < T.2.1) ∧ (S.2.2.2.1 x = none ∧ S.2.2.2.1 S.1 = none ∧ 0 ≤ x ∧ x < S.1) ∧ (∀ v, T.2.2.1 v = if v = S.1 then (ks.length : Int) else S.2.2.1 v) ∧ (∀ v, T.2.2.2.1 v = if v = x then some (rf_n j 3 S.1 F .leaf, eu) else S.2.2.2.1 v) ∧ (∀ i : Nat, (i : Int) < S.2.1 → T.2.2.2.2 i = S.2.2.2.2 i) ∧ T.2.2.2.2 j = zs ∧ zs.map eu = ks ∧ ks.Nodup ∧ (∀ k ∈ ks, 0 ≤ k ∧ k < S.2.2.1 x) ∧ ∀ z, eu z < S.2.2.1 x
theorem vx_nw_le {S T : vx_S} {x : Int} {j : Nat} {F : rf_N} {eu : Int → Int} {zs ks : List Int} (h : vx_nw S T x j F eu zs ks) : vx_le S T := by
  obtain ⟨⟨a1, a2, _⟩, ⟨b1, b2, b3, b4⟩, c, d, f, _⟩ := h
  refine ⟨⟨by omega, a2⟩, fun u h0 hu => by rw [c, if_neg (by omega)], fun u B e hb => ?_, f⟩
  rw [d, if_neg (fun q => by rw [q, b1] at hb; exact absurd hb (by simp))]
  exact hb
theorem vx_nw_W {S T : vx_S} {x : Int} {j : Nat} {F : rf_N} {eu : Int → Int} {zs ks : List Int} (h : vx_nw S T x j F eu zs ks) (hW : vx_W S) : vx_W T := fun u B e hb => by
  have hle := vx_nw_le h
  obtain ⟨⟨a1, a2, a3, a4, a5⟩, ⟨b1, b2, b3, b4⟩, c, d, f, g1, g2, g3, g4, g5⟩ := h
  rw [d] at hb
  by_cases q : u = x
  · rw [if_pos q] at hb
    obtain ⟨rfl, rfl⟩ := Prod.mk.inj (Option.some.inj hb)
    refine ⟨by omega, ⟨fun m hm => ?_, fun i hi => ?_, ⟨Or.inr ⟨rfl, ?_⟩, trivial⟩⟩, fun z => ?_⟩
    · have := vx_mt_call hm
      omega
    · rcases List.mem_cons.mp hi with rfl | hi
      · exact a4
      · rcases List.mem_append.mp hi with hi | hi
        · exact a5 i hi
        · exact absurd hi List.not_mem_nil
    · show ((T.2.2.2.2 j).length : Int) = T.2.2.1 S.1
      rw [c, if_pos rfl, g1, ← g2, List.length_map]
    · rw [c, if_neg (by omega), q]
      exact g5 z
  · rw [if_neg q] at hb
    obtain ⟨⟨w1, w2⟩, w3, w4⟩ := hW u B e hb
    exact ⟨by omega, vx_in_le hle w3, fun z => by rw [hle.2.1 u w1 w2]; exact w4 z⟩
theorem vx_nw_B1 {S T : vx_S} {x : Int} {j : Nat} {F : rf_N} {eu : Int → Int} {zs ks : List Int} (h : vx_nw S T x j F eu zs ks) (hB : vx_B1 S) : vx_B1 T := by
  obtain ⟨_, _, c, d, _⟩ := h
  refine ⟨fun u B e hb => ?_, fun u => ?_⟩
  · rw [d] at hb
    by_cases q : u = x
    · rw [if_pos q] at hb
      obtain ⟨rfl, rfl⟩ := Prod.mk.inj (Option.some.inj hb)
      exact ⟨fun z => (by cases z), rfl⟩
    · rw [if_neg q] at hb
      exact hB.1 u B e hb
  · rw [c]
    by_cases q : u = S.1
    · rw [if_pos q]
      omega
    · rw [if_neg q]
      exact hB.2 u
theorem vx_nw_rk {S T : vx_S} {x : Int} {j : Nat} {F : rf_N} {eu : Int → Int} {zs ks : List Int} {rk : Int → Nat} (h : vx_nw S T x j F eu zs ks) (hW : vx_W S) (hr : vx_rk S rk) : vx_rk T (fun v => if v = S.1 then 0 else rk v + 1) := fun u B e m hb hm => by
  obtain ⟨_, ⟨b1, b2, b3, b4⟩, c, d, _⟩ := h
  try dsimp only
  rw [d] at hb
  by_cases q : u = x
  · rw [if_pos q] at hb
    obtain ⟨rfl, rfl⟩ := Prod.mk.inj (Option.some.inj hb)
    rw [if_pos (vx_mt_call hm), if_neg (by omega)]
    omega
  · rw [if_neg q] at hb
    obtain ⟨⟨w1, w2⟩, w3, w4⟩ := hW u B e hb
    have := w3.1 m hm
    have := hr u B e m hb hm
    rw [if_neg (by omega), if_neg (by omega)]
    omega
/-- less is used -/
theorem vx_nw_U {S T : vx_S} {x : Int} {j : Nat} {F : rf_N} {eu : Int → Int} {zs ks : List Int} (h : vx_nw S T x j F eu zs ks) (hW : vx_W S) : ∀ v i, v ≠ S.1 → vx_U T v i → vx_U S v i := by
  have hle := vx_nw_le h
  obtain ⟨⟨a1, a2, a3, a4, a5⟩, ⟨b1, b2, b3, b4⟩, c, d, f, g1, g2, g3, g4, g5⟩ := h
  have key : vx_cl T (fun v i => v ≠ S.1 → vx_U S v i) := by
    refine ⟨fun v i hv i0 i1 hn => ?_, fun v B e z hb hz hn => ?_⟩
    · rw [d] at hv
      by_cases q : v = x
      · rw [if_pos q] at hv
        exact absurd hv (by simp)
      · rw [if_neg q] at hv
        rw [c, if_neg hn] at i1
        exact (vx_U_cl S).1 v i hv i0 i1
    · rw [d] at hb
      by_cases q : v = x
      · rw [if_pos q] at hb
        obtain ⟨rfl, rfl⟩ := Prod.mk.inj (Option.some.inj hb)
        rcases hz with (⟨y, _⟩ | ⟨_, i, i1, _⟩ | ⟨_, y, _⟩) | y
        · exact absurd y vx_30
        · have hm : eu z ∈ ks := by
            rw [← g2, ← g1]
            exact List.mem_map_of_mem (List.mem_of_getElem? i1)
          obtain ⟨k1, k2⟩ := g4 _ hm
          rw [q]
          exact (vx_U_cl S).1 x _ b1 k1 k2
        · exact absurd rfl y
        · exact y.elim
      · rw [if_neg q] at hb
        obtain ⟨⟨w1, w2⟩, w3, w4⟩ := hW v B e hb
        have hz' := (vx_fv_ar (fun i hi => hle.2.2.2 i (w3.2.1 i hi))).mp hz
        exact (vx_U_cl S).2 v B e z hb (vx_fv_mono' w3.2.2 (fun m i hm _ hu => hu (by have := w3.1 m hm; omega)) hz')
  exact fun v i hn hu => hu _ key hn
theorem vx_nw_Sc {S T : vx_S} {x : Int} {j : Nat} {F : rf_N} {eu : Int → Int} {zs ks : List Int} (h : vx_nw S T x j F eu zs ks) (hW : vx_W S) (hS : vx_Sc S) : vx_Sc T := fun v B e z hb hz => by
  have hle := vx_nw_le h
  have hU := vx_nw_U h hW
  obtain ⟨⟨a1, a2, a3, a4, a5⟩, ⟨b1, b2, b3, b4⟩, c, d, f, g1, g2, g3, g4, g5⟩ := h
  rw [d] at hb
  by_cases q : v = x
  · rw [if_pos q] at hb
    obtain ⟨rfl, rfl⟩ := Prod.mk.inj (Option.some.inj hb)
    rcases hz with (⟨y, _⟩ | ⟨_, i, i1, _⟩ | ⟨_, y, _⟩) | y
    · exact absurd y vx_30
    · have hm : eu z ∈ ks := by
        rw [← g2, ← g1]
        exact List.mem_map_of_mem (List.mem_of_getElem? i1)
      exact (g4 _ hm).1
    · exact absurd rfl y
    · exact y.elim
  · rw [if_neg q] at hb
    obtain ⟨⟨w1, w2⟩, w3, w4⟩ := hW v B e hb
    have hz' := (vx_fv_ar (fun i hi => hle.2.2.2 i (w3.2.1 i hi))).mp hz
    exact hS v B e z hb (vx_fv_mono' w3.2.2 (fun m i hm _ hu => hU m i (by have := w3.1 m hm; omega) hu) hz')
theorem vx_nw_So {S T : vx_S} {x : Int} {j : Nat} {F : rf_N} {eu : Int → Int} {zs ks : List Int} {th : Int → rf_N} (h : vx_nw S T x j F eu zs ks) (hW : vx_W S) (hS : vx_So S th) (hus : ∀ v, vx_oc v (th x) → v < S.2.2.1 x → v ∈ ks) : ∃ th', vx_So T th' ∧ vx_ag S.1 th th' := by
  have hle := vx_nw_le h
  obtain ⟨⟨a1, a2, a3, a4, a5⟩, ⟨b1, b2, b3, b4⟩, c, d, f, g1, g2, g3, g4, g5⟩ := h
  exact vx_nar hW hle hS ⟨b3, b4⟩ a1 (by rw [c, if_pos rfl]) d g1 g2 g3 g4 hus
/-- the unknown u gets the body B -/
def vx_gv (S T : vx_S) (u : Int) (B : rf_N) (eu : Int → Int) : Prop := (T.1 = S.1 ∧ T.2.1 = S.2.1 ∧ T.2.2.1 = S.2.2.1 ∧ T.2.2.2.2 = S.2.2.2.2) ∧ (S.2.2.2.1 u = none ∧ 0 ≤ u ∧ u < S.1) ∧ (∀ v, T.2.2.2.1 v = if v = u then some (B, eu) else S.2.2.2.1 v) ∧ (vx_in S B ∧ B ≠ .leaf ∧ vx_1 B = B) ∧ ∀ z, eu z < S.2.2.1 u
theorem vx_gv_le {S T : vx_S} {u : Int} {B : rf_N} {eu : Int → Int} (h : vx_gv S T u B eu) : vx_le S T := by
  obtain ⟨⟨a1, a2, a3, a4⟩, ⟨b1, b2, b3⟩, c, _⟩ := h
  refine ⟨⟨by omega, by omega⟩, fun v _ _ => by rw [a3], fun v B' e hb => ?_, fun j _ => by rw [a4]⟩
  rw [c, if_neg (fun q => by rw [q, b1] at hb; exact absurd hb (by simp))]
  exact hb
theorem vx_gv_W {S T : vx_S} {u : Int} {B : rf_N} {eu : Int → Int} (h : vx_gv S T u B eu) (hW : vx_W S) : vx_W T := fun v B' e hb => by
  have hle := vx_gv_le h
  obtain ⟨⟨a1, a2, a3, a4⟩, ⟨b1, b2, b3⟩, c, ⟨d1, d2, d3⟩, f⟩ := h
  rw [c] at hb
  by_cases q : v = u
  · rw [if_pos q] at hb
    obtain ⟨rfl, rfl⟩ := Prod.mk.inj (Option.some.inj hb)
    exact ⟨by omega, vx_in_le hle d1, fun z => by rw [a3, q]; exact f z⟩
  · rw [if_neg q] at hb
    obtain ⟨⟨w1, w2⟩, w3, w4⟩ := hW v B' e hb
    exact ⟨by omega, vx_in_le hle w3, fun z => by rw [a3]; exact w4 z⟩
theorem vx_gv_B1 {S T : vx_S} {u : Int} {B : rf_N} {eu : Int → Int} (h : vx_gv S T u B eu) (hB : vx_B1 S) : vx_B1 T := by
  obtain ⟨⟨a1, a2, a3, a4⟩, _, c, ⟨d1, d2, d3⟩, _⟩ := h
  refine ⟨fun v B' e hb => ?_, fun v => by rw [a3]; exact hB.2 v⟩
  rw [c] at hb
  by_cases q : v = u
  · rw [if_pos q] at hb
    obtain ⟨rfl, rfl⟩ := Prod.mk.inj (Option.some.inj hb)
    exact ⟨d2, d3⟩
  · rw [if_neg q] at hb
    exact hB.1 v B' e hb
theorem vx_gv_So {S T : vx_S} {u : Int} {B : rf_N} {eu : Int → Int} {th : Int → rf_N} (h : vx_gv S T u B eu) (hS : vx_So S th) (hu : th u = vx_val th S.2.2.2.2 B eu (S.2.2.1 u)) : vx_So T th := by
  obtain ⟨⟨a1, a2, a3, a4⟩, ⟨b1, b2, b3⟩, c, _⟩ := h
  refine ⟨hS.1, fun v v0 hv => by rw [a3]; exact hS.2.1 v v0 (by omega), fun v B' e hb => ?_⟩
  rw [c] at hb
  rw [a3, a4]
  by_cases q : v = u
  · rw [if_pos q] at hb
    obtain ⟨rfl, rfl⟩ := Prod.mk.inj (Option.some.inj hb)
    rw [q]
    exact hu
  · rw [if_neg q] at hb
    exact hS.2.2 v B' e hb
theorem vx_gv_U {S T : vx_S} {u : Int} {B : rf_N} {eu : Int → Int} (h : vx_gv S T u B eu) (hz : ∀ z, vx_fv (vx_U S) S.2.2.2.2 z B → 0 ≤ eu z) : ∀ v i, vx_U T v i → vx_U S v i := by
  obtain ⟨⟨a1, a2, a3, a4⟩, ⟨b1, b2, b3⟩, c, ⟨d1, d2, d3⟩, f⟩ := h
  have key : vx_cl T (vx_U S) := by
    refine ⟨fun v i hv i0 i1 => ?_, fun v B' e z hb hz' => ?_⟩
    · rw [c] at hv
      by_cases q : v = u
      · rw [if_pos q] at hv
        exact absurd hv (by simp)
      · rw [if_neg q] at hv
        rw [a3] at i1
        exact (vx_U_cl S).1 v i hv i0 i1
    · rw [c] at hb
      rw [a4] at hz'
      by_cases q : v = u
      · rw [if_pos q] at hb
        obtain ⟨rfl, rfl⟩ := Prod.mk.inj (Option.some.inj hb)
        rw [q]
        exact (vx_U_cl S).1 u _ b1 (hz z hz') (f z)
      · rw [if_neg q] at hb
        exact (vx_U_cl S).2 v B' e z hb hz'
  exact fun v i hu => hu _ key
theorem vx_gv_Sc {S T : vx_S} {u : Int} {B : rf_N} {eu : Int → Int} (h : vx_gv S T u B eu) (hz : ∀ z, vx_fv (vx_U S) S.2.2.2.2 z B → 0 ≤ eu z) (hS : vx_Sc S) : vx_Sc T := fun v B' e z hb hz' => by
  have hU := vx_gv_U h hz
  obtain ⟨⟨a1, a2, a3, a4⟩, ⟨b1, b2, b3⟩, c, ⟨d1, d2, d3⟩, f⟩ := h
  rw [a4] at hz'
  have hz2 := vx_fv_mono hU hz'
  rw [c] at hb
  by_cases q : v = u
  · rw [if_pos q] at hb
    obtain ⟨rfl, rfl⟩ := Prod.mk.inj (Option.some.inj hb)
    exact hz z hz2
  · rw [if_neg q] at hb
    exact hS v B' e z hb hz2
/-- from unknown to unknown -/
def vx_E (S : vx_S) (a b : Int) : Prop := ∃ B e, S.2.2.2.1 a = some (B, e) ∧ vx_mt b B
theorem vx_rc_head {E : Int → Int → Prop} {a c : Int} (h : rf_rc E a c) : E a c ∨ ∃ b, E a b ∧ rf_rc E b c := by
  induction h with
  | single q => exact Or.inl q
  | tail _ q ih =>
    rcases ih with ih | ⟨b, i1, i2⟩
    · exact Or.inr ⟨_, ih, .single q⟩
    · exact Or.inr ⟨b, i1, .tail i2 q⟩
theorem vx_eg_E (S : vx_S) (u : Int) (hu : S.2.2.2.1 u = none) : vx_eg S u (fun m => m ≠ u ∧ ¬ rf_rc (vx_E S) m u) := by
  refine ⟨fun m hm hu => ⟨hu, fun h => rf_rc_out (fun b ⟨B, e, hb, _⟩ => by rw [hm] at hb; exact absurd hb (by simp)) h⟩, fun m B e hb hm => ⟨fun q => ?_, fun h => ?_⟩⟩
  · rw [q, hu] at hb
    exact absurd hb (by simp)
  · rcases vx_rc_head h with ⟨B', e', h1, h2⟩ | ⟨b, ⟨B', e', h1, h2⟩, h3⟩
    · rw [hb] at h1
      obtain ⟨rfl, rfl⟩ := Prod.mk.inj (Option.some.inj h1)
      exact (hm u h2).1 rfl
    · rw [hb] at h1
      obtain ⟨rfl, rfl⟩ := Prod.mk.inj (Option.some.inj h1)
      exact (hm b h2).2 h3
theorem vx_max (rk : Int → Nat) : ∀ A : rf_N, ∃ M, ∀ m, vx_mt m A → rk m < M
  | .leaf => ⟨0, fun _ h => h.elim⟩
  | .inner j q u F X => by
    obtain ⟨M1, h1⟩ := vx_max rk F
    obtain ⟨M2, h2⟩ := vx_max rk X
    refine ⟨rk q.2 + 1 + M1 + M2, fun m hm => ?_⟩
    rcases hm with ⟨_, h⟩ | ⟨_, h⟩ | h
    · rw [← h]
      omega
    · have := h1 m h
      omega
    · have := h2 m h
      omega
theorem vx_gv_rk {S T : vx_S} {u : Int} {B : rf_N} {eu : Int → Int} {rk : Int → Nat} (h : vx_gv S T u B eu) (hr : vx_rk S rk) (hn : ∀ m, vx_mt m B → m ≠ u ∧ ¬ rf_rc (vx_E S) m u) : ∃ rk', vx_rk T rk' := by
  obtain ⟨M, hM⟩ := vx_max rk B
  obtain ⟨_, ⟨b1, b2, b3⟩, c, _⟩ := h
  refine ⟨fun v => rk v + @ite Nat (v = u ∨ rf_rc (vx_E S) v u) (Classical.propDecidable _) M 0, fun v B' e m hb hm => ?_⟩
  rw [c] at hb
  try dsimp only
  by_cases q : v = u
  · rw [if_pos q] at hb
    obtain ⟨rfl, rfl⟩ := Prod.mk.inj (Option.some.inj hb)
    obtain ⟨n1, n2⟩ := hn m hm
    rw [if_neg (fun z => z.elim n1 n2), if_pos (Or.inl q)]
    have := hM m hm
    omega
  · rw [if_neg q] at hb
    have h1 := hr v B' e m hb hm
    by_cases w : m = u ∨ rf_rc (vx_E S) m u
    · have hv : rf_rc (vx_E S) v u := by
        rcases w with w | w
        · exact .single ⟨B', e, hb, w ▸ hm⟩
        · exact rf_rc_trans (.single ⟨B', e, hb, hm⟩) w
      rw [if_pos w, if_pos (Or.inr hv)]
      omega
    · rw [if_neg w]
      by_cases w' : v = u ∨ rf_rc (vx_E S) v u
      · rw [if_pos w']
        omega
      · rw [if_neg w']
        omega
