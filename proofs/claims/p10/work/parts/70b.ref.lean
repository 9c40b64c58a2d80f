/-! ===== the reference: what later states keep; values of nodes under names ===== -/
theorem vr_rw_up {nb ib : Int} {s t : sx_S} (h : rf_EX nb ib s t) {j : Nat} {r : Int} (hb : rf_bn s j r) : vr_rw t j r = vr_rw s j r := by
  obtain ⟨b1, b2, b3, b4⟩ := hb
  unfold vr_rw
  rw [h.aa b2.1 b2.2]
  refine List.map_congr_left (fun q hq => ?_)
  have := List.mem_range.mp hq
  exact h.rv b1 b3 (by omega)
theorem vr_p_up {nb ib : Int} {s t : sx_S} (h : rf_EX nb ib s t) {AR AR' : Nat → List Int} {j : Nat} {r : Int} (hA : AR' j = AR j) (k : vr_p s AR j r) : vr_p t AR' j r := ⟨rf_bn_up h k.1, by rw [hA, k.2, vr_rw_up h k.1]⟩
theorem vr_t_up {nb ib : Int} {s t : sx_S} (h : rf_EX nb ib s t) {AR AR' : Nat → List Int} (hA : ∀ j : Nat, (j : Int) < s.1 66 50 → AR' j = AR j) {A : rf_N} : (vr_t s AR A → vr_t t AR' A) ∧ (vr_r s AR A → vr_r t AR' A) := vr_g_mono h.1.2.1 (fun j _ hj k => vr_p_up h (hA j hj) k)
theorem vr_fl_up {nb ib : Int} {s t : sx_S} {g : rf_Gh} (h : rf_EX nb ib s t) (hM : rf_MI nb ib s g) {u : Int} (hu : 0 ≤ u ∧ u < s.1 66 61) (hs : s.2.1 111 u.toNat ≠ 0) : vr_fl t u = vr_fl s u := by
  obtain ⟨_, _, ⟨⟨c1, c2⟩, _⟩, _⟩ := (hM.1 u hu.1 hu.2).2.2.2 hs
  unfold vr_fl
  rw [h.aa hu.1 hu.2]
  refine List.map_congr_left (fun q hq => ?_)
  have := List.mem_range.mp hq
  exact h.fm hu.1 hu.2 hs c1 (by omega)
/-- a body stays -/
theorem vr_bo_up {nb ib : Int} {s t : sx_S} {g g' : rf_Gh} (h : rf_EX nb ib s t) (hG : rf_EG s g g') (hM : rf_MI nb ib s g) {u : Int} (hu : 0 ≤ u ∧ u < s.1 66 61) (hs : s.2.1 111 u.toNat ≠ 0) : vr_bo t g' u = vr_bo s g u := by
  have e8 := h.1.2.2.2.1
  have e := ((h.2 u.toNat).2.2.2.1 (by omega)).2.2 hs
  obtain ⟨g1, g2⟩ := (hG u hu.1 hu.2).1 hs
  rw [vr_bo_at hu hs, vr_bo_at ⟨hu.1, by omega⟩ (by rw [e.1]; exact hs), g1]
  have : vr_e t g' u = vr_e s g u := by
    funext z
    unfold vr_e
    rw [g2, vr_fl_up h hM hu hs]
  rw [this]
theorem vr_le {nb ib : Int} {s t : sx_S} {g g' : rf_Gh} {AR AR' : Nat → List Int} (h : rf_EX nb ib s t) (hG : rf_EG s g g') (hM : rf_MI nb ib s g) (hA : ∀ j : Nat, (j : Int) < s.1 66 50 → AR' j = AR j) : vx_le (vr_S s g AR) (vr_S t g' AR') := by
  have e8 := h.1.2.2.2.1
  refine ⟨⟨e8, h.1.2.1⟩, fun u h0 hu => ?_, fun u B e hb => ?_, hA⟩
  · have hu' : u < s.1 66 61 := hu
    show vr_ar t u = vr_ar s u
    rw [vr_ar_at ⟨h0, hu'⟩, vr_ar_at ⟨h0, by omega⟩, h.aa h0 hu']
  · have hb' : vr_bo s g u = some (B, e) := hb
    obtain ⟨h1, h2, _, _⟩ := vr_bo_some hb'
    show vr_bo t g' u = some (B, e)
    rw [vr_bo_up h hG hM h1 h2]
    exact hb'
theorem vr_G_up {nb ib : Int} {s t : sx_S} {g g' : rf_Gh} {AR AR' : Nat → List Int} (h : rf_EX nb ib s t) (hG : rf_EG s g g') (hN : rf_NC s t) (hA : ∀ j : Nat, (j : Int) < s.1 66 50 → AR' j = AR j) (k : vr_G s g AR) : vr_G t g' AR' := fun x h0 hm hs => by
  rw [hN.1] at hm
  rw [hN.2 x.toNat (by omega)] at hs
  rw [((hG x h0 hm).1 hs).1]
  exact (vr_t_up h hA).1 (k x h0 hm hs)
/-- nothing was solved: the solutions are the same -/
theorem vr_So_NC {nb ib : Int} {s t : sx_S} {g g' : rf_Gh} {AR AR' : Nat → List Int} {th : Int → rf_N} (hI : cx_I s) (h : rf_EX nb ib s t) (hG : rf_EG s g g') (hN : rf_NC s t) (hM : rf_MI nb ib s g) (hV : vr_G s g AR) (hA : ∀ j : Nat, (j : Int) < s.1 66 50 → AR' j = AR j) : vx_So (vr_S t g' AR') th ↔ vx_So (vr_S s g AR) th := by
  have hle := vr_le h hG hM hA
  constructor
  · exact fun k => vx_So_le (vr_W hI hV) hle k
  · rintro ⟨k1, k2, k3⟩
    refine ⟨k1, fun u h0 hu => ?_, fun u B e hb => ?_⟩
    · have hu' : u < t.1 66 61 := hu
      rw [hN.1] at hu'
      have := k2 u h0 hu'
      have e : (vr_S t g' AR').2.2.1 u = (vr_S s g AR).2.2.1 u := hle.2.1 u h0 hu'
      rw [e]
      exact this
    · have hb' : vr_bo t g' u = some (B, e) := hb
      obtain ⟨⟨h1, h2⟩, h3, _, _⟩ := vr_bo_some hb'
      rw [hN.1] at h2
      rw [hN.2 u.toNat (by omega)] at h3
      rw [vr_bo_up h hG hM ⟨h1, h2⟩ h3] at hb'
      have q := k3 u B e hb'
      have ea : (vr_S t g' AR').2.2.1 u = (vr_S s g AR).2.2.1 u := hle.2.1 u h1 h2
      have iB := (vr_W hI hV u B e hb').2.1
      rw [ea, vx_val_le hle iB]
      exact q
/-! values -/
def vr_V (th : Int → rf_N) (AR : Nat → List Int) (A : rf_N) (y : rf_Y) (L : Int) : rf_N := vx_val th AR (vr_1 A) (rf_look y) L
def vr_X (th : Int → rf_N) (AR : Nat → List Int) (A : rf_N) (y : rf_Y) (L : Int) : rf_N := vx_val th AR (vr_c A) (rf_look y) L
theorem vr_V_up {s : sx_S} {AR AR' : Nat → List Int} (hI : cx_I s) (hA : ∀ j : Nat, (j : Int) < s.1 66 50 → AR' j = AR j) {th : Int → rf_N} {A : rf_N} {y : rf_Y} {L : Int} : (vr_t s AR A → vr_V th AR' A y L = vr_V th AR A y L) ∧ (vr_r s AR A → vr_X th AR' A y L = vr_X th AR A y L) := ⟨fun h => vx_val_th (fun _ _ => rfl) (fun j hj => hA j (((vr_in (g := (fun _ => .leaf, fun _ => .leaf, fun _ _ => True)) hI).1 h).2.1 j hj)), fun h => vx_val_th (fun _ _ => rfl) (fun j hj => hA j (((vr_in (g := (fun _ => .leaf, fun _ => .leaf, fun _ _ => True)) hI).2 h).2.1 j hj))⟩
theorem vr_V_ag {s : sx_S} {AR AR' : Nat → List Int} (hI : cx_I s) {th th' : Int → rf_N} (ha : vx_ag (s.1 66 61) th th') {A : rf_N} {y : rf_Y} {L : Int} : (vr_t s AR' A → vr_V th' AR A y L = vr_V th AR A y L) ∧ (vr_r s AR' A → vr_X th' AR A y L = vr_X th AR A y L) := ⟨fun h => vx_val_th (fun m hm => by
    have h2 := ((vr_in (g := (fun _ => .leaf, fun _ => .leaf, fun _ _ => True)) hI).1 h).1 m hm
    exact ha m h2.1 h2.2) (fun _ _ => rfl), fun h => vx_val_th (fun m hm => by
    have h2 := ((vr_in (g := (fun _ => .leaf, fun _ => .leaf, fun _ _ => True)) hI).2 h).1 m hm
    exact ha m h2.1 h2.2) (fun _ _ => rfl)⟩
/-- more variables are made: the same values but for the new numbers -/
theorem vr_sh {th : Int → rf_N} {AR : Nat → List Int} (hg : vx_gd th) {A : rf_N} {e : Int → Int} {L L' : Int} (h : ∀ z, vx_fv (fun _ _ => True) AR z A → e z < L ∧ e z < L') : vx_re (fun v => if v < L ∧ v < L' then v else v - L + L') (vx_val th AR A e L) = vx_val th AR A e L' := by
  rw [vx_val_re hg (L' := L') (fun i hi => by
    try dsimp only
    rw [if_neg (by omega)]
    omega)]
  refine vx_val_cg hg (fun z hz => ?_)
  have := h z (vx_fv_mono (fun _ _ _ => trivial) hz)
  show (if e z < L ∧ e z < L' then e z else e z - L + L') = e z
  rw [if_pos this]
theorem vr_shE {th : Int → rf_N} {AR : Nat → List Int} (hg : vx_gd th) {A B : rf_N} {e d : Int → Int} {L L' : Int} (h : ∀ z, vx_fv (fun _ _ => True) AR z A → e z < L ∧ e z < L') (h' : ∀ z, vx_fv (fun _ _ => True) AR z B → d z < L ∧ d z < L') (q : vx_val th AR A e L = vx_val th AR B d L) : vx_val th AR A e L' = vx_val th AR B d L' := by
  rw [← vr_sh hg h, ← vr_sh hg h', q]
theorem vr_up (y : rf_Y) (x L : Int) : vx_up (rf_look y) x L = rf_look (rf_one x L y) := by
  funext v
  show (if v = x then L else rf_look y v) = (if x = v then L else rf_look y v)
  by_cases c : v = x
  · rw [if_pos c, if_pos c.symm]
  · rw [if_neg c, if_neg (fun z => c z.symm)]
theorem vr_V_lam {th : Int → rf_N} {AR : Nat → List Int} {j : Nat} {q : Int × Int} {u : Unit} {f x : rf_N} {y : rf_Y} {L : Int} (h : q.1 = 0) : vr_V th AR (.inner j q u f x) y L = rf_n 0 0 0 (vr_V th AR f (rf_one q.2 L y) (L + 1)) .leaf := by
  unfold vr_V
  rw [vr_1_in, vx_val_in, if_pos h, vr_f_0 h, vr_up]
  rfl
theorem vr_V_rig {th : Int → rf_N} {AR : Nat → List Int} {j : Nat} {q : Int × Int} {u : Unit} {f x : rf_N} {y : rf_Y} {L : Int} (h : q.1 = 1 ∨ q.1 = 2) : vr_V th AR (.inner j q u f x) y L = rf_n 0 q.1 (if q.1 = 2 then rf_look y q.2 else q.2) (vr_X th AR f y L) .leaf := by
  unfold vr_V vr_X
  rw [vr_1_in, vx_val_in, if_neg (by omega), if_neg (by omega), vr_f_2 h]
  rfl
theorem vr_V_call {th : Int → rf_N} {AR : Nat → List Int} (hg : ∀ m, vx_on (th m)) {j : Nat} {q : Int × Int} {u : Unit} {f x : rf_N} {y : rf_Y} {L : Int} (h : q.1 = 3) : vr_V th AR (.inner j q u f x) y L = vx_re (vx_ix ((AR j).map (rf_look y)) L) (th q.2) := by
  unfold vr_V
  rw [vr_1_in, vr_f_3 h]
  obtain ⟨q1, q2⟩ := q
  have h' : q1 = 3 := h
  subst h'
  exact vx_call hg
theorem vr_V_on {th : Int → rf_N} {AR : Nat → List Int} (hg : ∀ m, vx_on (th m)) {A : rf_N} {y : rf_Y} {L : Int} (h : A ≠ .leaf) : vx_on (vr_V th AR A y L) := by
  unfold vr_V
  rw [← vr_1_1]
  exact vx_val_on hg (vr_1_ne h)
theorem vr_X_c {th : Int → rf_N} {AR : Nat → List Int} (hg : ∀ m, vx_on (th m)) {j : Nat} {q : Int × Int} {u : Unit} {f x : rf_N} {y : rf_Y} {L : Int} : vr_X th AR (.inner j q u f x) y L = vx_sb (vr_V th AR (.inner j q u f x) y L) (vr_X th AR x y L) := by
  unfold vr_X vr_V
  rw [vr_c_in, vr_1_in, vx_val_1 hg]
/-- two rows -/
theorem vr_X_eq {th : Int → rf_N} {AR : Nat → List Int} (hg : ∀ m, vx_on (th m)) {j j' : Nat} {q q' : Int × Int} {u u' : Unit} {f x f' x' : rf_N} {y y' : rf_Y} {L : Int} : vr_X th AR (.inner j q u f x) y L = vr_X th AR (.inner j' q' u' f' x') y' L ↔ vr_V th AR (.inner j q u f x) y L = vr_V th AR (.inner j' q' u' f' x') y' L ∧ vr_X th AR x y L = vr_X th AR x' y' L := by
  rw [vr_X_c hg, vr_X_c hg]
  constructor
  · exact fun h => vx_sb_on (vr_V_on hg (fun z => by cases z)) (vr_V_on hg (fun z => by cases z)) h
  · rintro ⟨h1, h2⟩
    rw [h1, h2]
/-- a solved unknown is entered -/
theorem vr_V_en {nb ib : Int} {s : sx_S} {g : rf_Gh} {AR : Nat → List Int} {th : Int → rf_N} (hI : cx_I s) (hM : rf_MI nb ib s g) (hS : vx_So (vr_S s g AR) th) {j : Nat} {kk : Int × Int} {u : Unit} {f n : rf_N} {y : rf_Y} {L i : Int} (k3 : kk.1 = 3) (hp : vr_p s AR j kk.2) (hs : s.2.1 111 kk.2.toNat ≠ 0) (hi : i.toNat = j) : vr_V th AR (.inner j kk u f n) y L = vr_V th AR (g.1 kk.2) (rf_bh (g.2.1 kk.2) (rf_row (rf_fm s kk.2) (rf_vo s y i) (rf_aa s kk.2).toNat)) L := by
  obtain ⟨⟨_, hr, _⟩, hq⟩ := hp
  have hMX := hM.1 kk.2 hr.1 hr.2
  have hSV := hMX.2.2.2 hs
  have c5 := hSV.2.2.1.2.2.2
  have a0 := vr_aa0 hI kk.2
  unfold vr_V
  rw [vr_1_in, vr_f_3 k3]
  obtain ⟨k1, k2⟩ := kk
  have h' : k1 = 3 := k3
  subst h'
  refine vx_call_body hS (S := vr_S s g AR) (em := vr_e s g k2) (vr_bo_at hr hs) ?_ ?_ ?_
  · show ((AR j).length : Int) = vr_ar s k2
    rw [hq, vr_ar_at hr]
    unfold vr_rw
    rw [vr_gl]
    have a0' : 0 ≤ rf_aa s k2 := a0.1
    omega
  · intro z
    show vr_e s g k2 z < vr_ar s k2
    rw [vr_ar_at hr]
    exact vr_e_lt hI g k2 z
  · intro z hz
    obtain ⟨q, q1, q2, q3⟩ := vr_e_nn hz
    show rf_look (rf_bh (g.2.1 k2) (rf_row (rf_fm s k2) (rf_vo s y i) (rf_aa s k2).toNat)) z = ((AR j).map (rf_look y)).getD (vr_e s g k2 z).toNat (-1)
    rw [rf_bh_look, q3, rf_row_look (fun a b ha hb => c5 a b (by dsimp only; omega) (by dsimp only; omega)) (by omega), q2, Int.toNat_natCast]
    have e1 : ((AR j).map (rf_look y))[q]? = some (rf_look y (rf_rv1 s j q)) := by
      rw [List.getElem?_map, hq]
      have : (vr_rw s j k2)[q]? = some (rf_rv1 s j q) := vr_gr.mpr ⟨by omega, rfl⟩
      rw [this]
      rfl
    rw [vx_getD e1]
    unfold rf_vo rf_rv1
    rw [hi]
/-- all variables of a node under names are made -/
theorem vr_rng {s : sx_S} {g : rf_Gh} {AR : Nat → List Int} {N : Int → rf_T → Prop} {A : rf_N} {y : rf_Y} {x : rf_T} {W : List Nat} {p : Nat} {i b : Int} (k : rf_CL s g N A y x W p i b) (h : vr_t s AR A) : ∀ z, vx_fv (fun _ _ => True) AR z (vr_1 A) → 0 ≤ rf_look y z ∧ rf_look y z < s.1 66 58 := fun z hz => by
  obtain ⟨⟨a1, a2, a3, a4⟩, _⟩ := k
  have hbn := (rf_bn_gn a1).1 _ a2
  have h1 := (vr_fv (s := s) (AR := AR) (V := fun _ _ => True) (U := fun r q => (q : Int) < rf_aa s r) (fun _ _ hi _ => hi)).1 h hz
  have h2 := (rf_am_mono (p := rf_bn s) (p' := fun j r => ∀ v, rf_Wd s (fun r q => (q : Int) < rf_aa s r) j r v → ∃ q : Nat, (q : Int) < rf_aa s r ∧ v = rf_rv1 s j q) (n := A) (fun j _ r hb v hv => hv)).1 hbn
  obtain ⟨T, hT⟩ := rf_fo_ty.1 _ a2 h2 z h1
  exact (a4.2.2.1 z T hT).1
theorem vr_rngR {s : sx_S} {g : rf_Gh} {AR : Nat → List Int} {N : Int → rf_T → Prop} {A : rf_N} {y : rf_Y} {x : rf_T} {W : List Nat} {p : Nat} {i b : Int} (k : rf_CR s g N A y x W p i b) (h : vr_r s AR A) : ∀ z, vx_fv (fun _ _ => True) AR z (vr_c A) → 0 ≤ rf_look y z ∧ rf_look y z < s.1 66 58 := fun z hz => by
  obtain ⟨⟨a1, a2, a3, a4⟩, _⟩ := k
  have hbn := (rf_bn_gn a1).2 _ _ a2
  have h1 := (vr_fv (s := s) (AR := AR) (V := fun _ _ => True) (U := fun r q => (q : Int) < rf_aa s r) (fun _ _ hi _ => hi)).2 h hz
  have h2 := (rf_am_mono (p := rf_bn s) (p' := fun j r => ∀ v, rf_Wd s (fun r q => (q : Int) < rf_aa s r) j r v → ∃ q : Nat, (q : Int) < rf_aa s r ∧ v = rf_rv1 s j q) (n := A) (fun j _ r hb v hv => hv)).2 hbn
  obtain ⟨T, hT⟩ := rf_fo_ty.2 _ _ a2 h2 z h1
  exact (a4.2.2.1 z T hT).1
