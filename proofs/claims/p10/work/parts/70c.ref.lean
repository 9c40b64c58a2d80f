/-! ===== solving: what a step does to the solutions ===== -/
/-- solved: just the solutions of S with P are left -/
def vr_Y (S T : vx_S) (P : (Int → rf_N) → Prop) : Prop := True → vx_le S T ∧ (∀ th, vx_So T th → P th) ∧ ∀ th, vx_So S th → P th → ∃ th', vx_So T th' ∧ vx_ag S.1 th th'
def vr_N (S : vx_S) (P : (Int → rf_N) → Prop) : Prop := ∀ th, vx_So S th → ¬ P th
/-- those with P are still there -/
def vr_Z (S T : vx_S) (P : (Int → rf_N) → Prop) : Prop := True → vx_le S T ∧ ∀ th, vx_So S th → P th → ∃ th', vx_So T th' ∧ vx_ag S.1 th th'
theorem vr_ag_refl (n : Int) (th : Int → rf_N) : vx_ag n th th := fun _ _ _ => rfl
theorem vr_ag_tr {n n' : Int} {a b c : Int → rf_N} (hn : n ≤ n') (h1 : vx_ag n a b) (h2 : vx_ag n' b c) : vx_ag n a c := fun u h0 hu => (h2 u h0 (by omega)).trans (h1 u h0 hu)
theorem vr_Y_cg {S T : vx_S} {P P' : (Int → rf_N) → Prop} (hW : vx_W S) (h : ∀ th, vx_So S th → (P th ↔ P' th)) (k : vr_Y S T P) : vr_Y S T P' := fun _ => by
  obtain ⟨k1, k2, k3⟩ := k trivial
  exact ⟨k1, fun th hT => (h th (vx_So_le hW k1 hT)).mp (k2 th hT), fun th hS hp => k3 th hS ((h th hS).mpr hp)⟩
theorem vr_N_cg {S : vx_S} {P P' : (Int → rf_N) → Prop} (h : ∀ th, vx_So S th → (P' th → P th)) (k : vr_N S P) : vr_N S P' := fun th hS hp => k th hS (h th hS hp)
theorem vr_Y_refl {S : vx_S} {P : (Int → rf_N) → Prop} (h : ∀ th, vx_So S th → P th) : vr_Y S S P := fun _ => ⟨vx_le_refl S, h, fun th hS _ => ⟨th, hS, vr_ag_refl _ _⟩⟩
theorem vr_Z_refl {S : vx_S} {P : (Int → rf_N) → Prop} : vr_Z S S P := fun _ => ⟨vx_le_refl S, fun th hS _ => ⟨th, hS, vr_ag_refl _ _⟩⟩
theorem vr_Z_cg {S T : vx_S} {P P' : (Int → rf_N) → Prop} (h : ∀ th, vx_So S th → P' th → P th) (k : vr_Z S T P) : vr_Z S T P' := fun _ => ⟨(k trivial).1, fun th hS hp => (k trivial).2 th hS (h th hS hp)⟩
/-- an open unknown before two rows -/
theorem vr_meet {S T : vx_S} {m L : Int} {J : Nat} {eu : Int → Int} {zs ks xs ys : List Int} (hW : vx_W S) (hn : vx_nw S T m J .leaf eu zs ks) (lx : (xs.length : Int) = S.2.2.1 m) (ly : (ys.length : Int) = S.2.2.1 m) (hk : ∀ i : Nat, (i : Int) < S.2.2.1 m → ((i : Int) ∈ ks ↔ xs[i]? = ys[i]?)) : vr_Y S T (fun th => vx_re (vx_ix xs L) (th m) = vx_re (vx_ix ys L) (th m)) := fun _ => by
  have hl : xs.length = ys.length := by omega
  refine ⟨vx_nw_le hn, fun th hT => ?_, fun th hS hp => vx_nw_So hn hW hS (fun v hv hl' => ?_)⟩
  · exact (vx_same hT.1 hl).mpr (fun i hi' ho => (hk i (by omega)).mp (vx_nw_us hn hT i ho (by omega)))
  · have v0 := (hS.1 m).2 v hv
    have h1 := (vx_same hS.1 hl).mp hp v.toNat (by omega) (by rw [Int.toNat_of_nonneg v0]; exact hv)
    have h2 := (hk v.toNat (by omega)).mpr h1
    rw [Int.toNat_of_nonneg v0] at h2
    exact h2
/-- two open unknowns -/
theorem vr_join {S S1 T : vx_S} {m n L : Int} {J : Nat} {em en : Int → Int} {zs ks xs ys : List Int} (hW : vx_W S) (hn : vx_nw S S1 m J .leaf em zs ks) (hg : vx_gv S1 T n (rf_n J 3 S.1 .leaf .leaf) en) (hn0 : 0 ≤ n ∧ n < S.1) (hL : 0 ≤ L) (lx : (xs.length : Int) = S.2.2.1 m) (ly : (ys.length : Int) = S.2.2.1 n) (ny : ys.Nodup) (hx : ∀ x ∈ xs, x < L) (hy : ∀ y ∈ ys, 0 ≤ y ∧ y < L) (hz : ∀ z ∈ zs, z < L) (hem : ∀ z, 0 ≤ em z → z = xs.getD (em z).toNat (-1)) (hen : ∀ z, 0 ≤ en z → z = ys.getD (en z).toNat (-1)) (hen2 : ∀ z (i : Nat), ys[i]? = some z → en z = (i : Int)) (hk : ∀ (i : Nat) z, xs[i]? = some z → z ∈ ys → (i : Int) ∈ ks) : vr_Y S T (fun th => vx_re (vx_ix xs L) (th m) = vx_re (vx_ix ys L) (th n)) := fun _ => by
  have hle1 := vx_nw_le hn
  have hle2 := vx_gv_le hg
  have hW1 := vx_nw_W hn hW
  have hn' := hn
  obtain ⟨⟨a1, a2, a3, a4, a5⟩, ⟨b1, b2, b3, b4⟩, c, d, f, g1, g2, g3, g4, g5⟩ := hn'
  have hg' := hg
  obtain ⟨⟨o1, o2, o3, o4⟩, ⟨p1, p2, p3⟩, pc, _, po⟩ := hg'
  have em1 : S1.2.2.1 m = S.2.2.1 m := by rw [c, if_neg (by omega)]
  have en1 : S1.2.2.1 n = S.2.2.1 n := by rw [c, if_neg (by omega)]
  have bm : S1.2.2.2.1 m = some (rf_n J 3 S.1 .leaf .leaf, em) := by rw [d, if_pos rfl]
  have bn : T.2.2.2.1 n = some (rf_n J 3 S.1 .leaf .leaf, en) := by rw [pc, if_pos rfl]
  have key1 : ∀ th, vx_So S1 th → vx_re (vx_ix xs L) (th m) = vx_val th S1.2.2.2.2 (rf_n J 3 S.1 .leaf .leaf) (fun z => z) L := fun th h1 => vx_enter h1.1 (e := em) (by
    have := h1.2.2 m _ _ bm
    rw [em1, ← lx] at this
    exact this) (fun z => by rw [lx]; exact g5 z) hem
  refine ⟨vx_le_trans hle1 hle2, fun th hT => ?_, fun th hS hp => ?_⟩
  · show vx_re (vx_ix xs L) (th m) = vx_re (vx_ix ys L) (th n)
    rw [key1 th (vx_So_le hW1 hle2 hT)]
    refine (vx_enter hT.1 (e := en) (AR := S1.2.2.2.2) ?_ (fun z => ?_) hen).symm
    · have := hT.2.2 n _ _ bn
      rw [o3, o4, en1, ← ly] at this
      exact this
    · have := po z
      rw [en1, ← ly] at this
      exact this
  · obtain ⟨th', h1, hag⟩ := vx_nw_So hn hW hS (fun v hv hl => by
      have v0 := (hS.1 m).2 v hv
      have hi : v.toNat < xs.length := by omega
      have hz1 := List.getElem?_eq_getElem hi
      have ho : vx_oc xs[v.toNat] (vx_re (vx_ix xs L) (th m)) := vx_oc_re.mpr ⟨v, hv, by
        unfold vx_ix
        rw [if_pos (by omega), vx_getD hz1]⟩
      rw [hp] at ho
      obtain ⟨w, w1, w2⟩ := vx_oc_re.mp ho
      have w0 := (hS.1 n).2 w w1
      have hlt := hx _ (List.mem_of_getElem? hz1)
      unfold vx_ix at w2
      by_cases cw : w < (ys.length : Int)
      · rw [if_pos cw] at w2
        have hw := List.getElem?_eq_getElem (show w.toNat < ys.length by omega)
        rw [vx_getD hw] at w2
        have := hk v.toNat _ hz1 (by rw [← w2]; exact List.mem_of_getElem? hw)
        rw [Int.toNat_of_nonneg v0] at this
        exact this
      · rw [if_neg cw] at w2
        omega)
    have hpm : th' m = th m := hag m b3 b4
    have hpn : th' n = th n := hag n hn0.1 hn0.2
    refine ⟨th', vx_gv_So hg h1 ?_, hag⟩
    have hfin : vx_re (vx_ix ys L) (th' n) = vx_val th' S1.2.2.2.2 (rf_n J 3 S.1 .leaf .leaf) (fun z => if z < L then z else -1) L := by
      have e1 : vx_re (vx_ix ys L) (th' n) = vx_re (vx_ix xs L) (th' m) := by rw [hpm, hpn]; exact hp.symm
      rw [e1, key1 th' h1]
      refine vx_val_cg h1.1 (fun z hz' => ?_)
      show z = if z < L then z else -1
      rcases hz' with (⟨q, _⟩ | ⟨_, i, i1, _⟩ | ⟨_, q, _⟩) | q
      · exact absurd q vx_30
      · rw [g1] at i1
        rw [if_pos (hz z (List.mem_of_getElem? i1))]
      · exact absurd rfl q
      · exact q.elim
    have := vx_bind (u := n) (xs := ys) (L := L) (e := fun z => if z < L then z else -1) (eu := en) (AR := S1.2.2.2.2) h1.1 (by
      have := h1.2.1 n p2 p3
      rw [en1, ← ly] at this
      exact this) ny (fun y h => (hy y h).2) (fun z => by
      try dsimp only
      by_cases cz : z < L
      · rw [if_pos cz]
        exact cz
      · rw [if_neg cz]
        omega) (fun z i hi => by
      try dsimp only at hi
      by_cases cz : z < L
      · rw [if_pos cz] at hi
        exact hen2 z i hi
      · rw [if_neg cz] at hi
        have := (hy _ (List.mem_of_getElem? hi)).1
        omega) hfin
    rw [en1, ← ly]
    exact this
/-- an unknown is given a body -/
theorem vr_bind {S T : vx_S} {m L : Int} {xs : List Int} {B : rf_N} {d eu : Int → Int} (hg : vx_gv S T m B eu) (hL : 0 ≤ L) (lx : (xs.length : Int) = S.2.2.1 m) (nx : xs.Nodup) (hx : ∀ x ∈ xs, 0 ≤ x ∧ x < L) (hd : ∀ z, vx_fv (fun _ _ => True) S.2.2.2.2 z B → d z < L) (h1 : ∀ z, 0 ≤ eu z → d z = xs.getD (eu z).toNat (-1)) (h2 : ∀ z (i : Nat), xs[i]? = some (d z) → eu z = (i : Int)) : (∀ th, vx_So T th → vx_re (vx_ix xs L) (th m) = vx_val th S.2.2.2.2 B d L) ∧ ∀ th, vx_So S th → vx_re (vx_ix xs L) (th m) = vx_val th S.2.2.2.2 B d L → vx_So T th := by
  have hg' := hg
  obtain ⟨⟨o1, o2, o3, o4⟩, ⟨p1, p2, p3⟩, pc, _, po⟩ := hg'
  have bm : T.2.2.2.1 m = some (B, eu) := by rw [pc, if_pos rfl]
  refine ⟨fun th hT => vx_enter hT.1 (e := eu) ?_ (fun z => by rw [lx]; exact po z) h1, fun th hS hp => vx_gv_So hg hS ?_⟩
  · have := hT.2.2 m _ _ bm
    rw [o3, o4, ← lx] at this
    exact this
  · have e1 : vx_val th S.2.2.2.2 B d L = vx_val th S.2.2.2.2 B (fun z => if d z < L then d z else -1) L := vx_val_cg hS.1 (fun z hz => by
      try dsimp only
      rw [if_pos (hd z (vx_fv_mono (fun _ _ _ => trivial) hz))])
    rw [e1] at hp
    have := vx_bind (u := m) (xs := xs) (L := L) (e := fun z => if d z < L then d z else -1) (eu := eu) (AR := S.2.2.2.2) hS.1 (by
      have := hS.2.1 m p2 p3
      rw [← lx] at this
      exact this) nx (fun y h => (hx y h).2) (fun z => by
      try dsimp only
      by_cases cz : d z < L
      · rw [if_pos cz]
        exact cz
      · rw [if_neg cz]
        omega) (fun z i hi => by
      try dsimp only at hi
      by_cases cz : d z < L
      · rw [if_pos cz] at hi
        exact h2 z i hi
      · rw [if_neg cz] at hi
        have := (hx _ (List.mem_of_getElem? hi)).1
        omega) hp
    rw [← lx]
    exact this
/-! what a solution asks of what is looked through: only what is allowed stands in it; the unknown m is larger -/
def vr_K (al : Int → Prop) (m : Int) (AR : Nat → List Int) (A : rf_N) (y : rf_Y) (L : Int) (th : Int → rf_N) : Prop := (∀ w, vx_oc w (vr_V th AR A y L) → al w) ∧ vx_sz (vr_V th AR A y L) ≤ vx_sz (th m) ∧ (rf_k3 A → vx_sz (vr_V th AR A y L) < vx_sz (th m))
def vr_Kr (al : Int → Prop) (m : Int) (AR : Nat → List Int) (A : rf_N) (y : rf_Y) (L : Int) (th : Int → rf_N) : Prop := (∀ w, vx_oc w (vr_X th AR A y L) → al w) ∧ vx_sz (vr_X th AR A y L) < vx_sz (th m)
theorem vr_sz_n {k h : Int} {F : rf_N} : vx_sz (rf_n 0 k h F .leaf) = 1 + vx_sz F := rfl
theorem vr_K_lam {al : Int → Prop} {m : Int} {th : Int → rf_N} {AR : Nat → List Int} {j : Nat} {q : Int × Int} {u : Unit} {f x : rf_N} {y : rf_Y} {L : Int} (h : q.1 = 0) (k : vr_K al m AR (.inner j q u f x) y L th) : vr_K al m AR f (rf_one q.2 L y) (L + 1) th := by
  obtain ⟨k1, k2, _⟩ := k
  rw [vr_V_lam h] at k1 k2
  rw [vr_sz_n] at k2
  exact ⟨fun w hw => k1 w (Or.inr (Or.inl hw)), by omega, fun _ => by omega⟩
theorem vr_K_rig {al : Int → Prop} {m : Int} {th : Int → rf_N} {AR : Nat → List Int} {j : Nat} {q : Int × Int} {u : Unit} {f x : rf_N} {y : rf_Y} {L : Int} (h : q.1 = 1 ∨ q.1 = 2) (k : vr_K al m AR (.inner j q u f x) y L th) : vr_Kr al m AR f y L th ∧ (q.1 = 2 → al (rf_look y q.2)) := by
  obtain ⟨k1, k2, _⟩ := k
  rw [vr_V_rig h] at k1 k2
  rw [vr_sz_n] at k2
  refine ⟨⟨fun w hw => k1 w (Or.inr (Or.inl hw)), by omega⟩, fun c => k1 _ (Or.inl ⟨c, ?_⟩)⟩
  show (if q.1 = 2 then rf_look y q.2 else q.2) = rf_look y q.2
  rw [if_pos c]
theorem vr_Kr_c {al : Int → Prop} {m : Int} {th : Int → rf_N} (hg : ∀ m, vx_on (th m)) {AR : Nat → List Int} {j : Nat} {q : Int × Int} {u : Unit} {f x : rf_N} {y : rf_Y} {L : Int} (k : vr_Kr al m AR (.inner j q u f x) y L th) : vr_K al m AR (.inner j q u f x) y L th ∧ vr_Kr al m AR x y L th := by
  obtain ⟨k1, k2⟩ := k
  have ho := vr_V_on hg (AR := AR) (A := .inner j q u f x) (y := y) (L := L) (fun z => by cases z)
  rw [vr_X_c hg] at k1 k2
  rw [vx_sz_sb ho] at k2
  exact ⟨⟨fun w hw => k1 w ((vx_oc_sb ho).mpr (Or.inl hw)), by omega, fun _ => by omega⟩, ⟨fun w hw => k1 w ((vx_oc_sb ho).mpr (Or.inr hw)), by omega⟩⟩
theorem vr_K_self {al : Int → Prop} {m : Int} {th : Int → rf_N} (hg : ∀ m, vx_on (th m)) {AR : Nat → List Int} {j : Nat} {q : Int × Int} {u : Unit} {f x : rf_N} {y : rf_Y} {L : Int} (h : q.1 = 3) (hm : q.2 = m) : ¬ vr_K al m AR (.inner j q u f x) y L th := fun k => by
  have := k.2.2 h
  rw [vr_V_call hg h, vx_sz_re, hm] at this
  omega
theorem vr_K_en {al : Int → Prop} {m : Int} {th : Int → rf_N} {AR : Nat → List Int} {A B : rf_N} {y y' : rf_Y} {L : Int} (h3 : rf_k3 A) (e : vr_V th AR A y L = vr_V th AR B y' L) (k : vr_K al m AR A y L th) : vr_K al m AR B y' L th := by
  obtain ⟨k1, k2, k3⟩ := k
  have k3 := k3 h3
  rw [e] at k1 k2 k3
  exact ⟨k1, k2, fun _ => k3⟩
theorem vr_K_nw {al : Int → Prop} {m : Int} {th : Int → rf_N} (hg : vx_gd th) {AR : Nat → List Int} {j : Nat} {q : Int × Int} {u : Unit} {f x : rf_N} {y : rf_Y} {L : Int} (h : q.1 = 3) (k : vr_K al m AR (.inner j q u f x) y L th) {v : Nat} {z : Int} (hv : vx_oc (v : Int) (th q.2)) (hz : (AR j)[v]? = some z) : al (rf_look y z) := by
  refine k.1 _ ?_
  rw [vr_V_call (fun m => (hg m).1) h]
  refine vx_oc_re.mpr ⟨v, hv, ?_⟩
  have h1 := (List.getElem?_eq_some_iff.mp hz).1
  unfold vx_ix
  rw [List.length_map, if_pos (by omega), Int.toNat_natCast]
  exact vx_getD (by rw [List.getElem?_map, hz]; rfl)
theorem vr_K_0 {al : Int → Prop} {m : Int} {th : Int → rf_N} (hg : vx_gd th) {AR : Nat → List Int} {A : rf_N} {y : rf_Y} {L : Int} {xs : List Int} (hx : ∀ x ∈ xs, al x) (hL : ∀ w, L ≤ w → al w) (h3 : ¬ rf_k3 A) (e : vx_re (vx_ix xs L) (th m) = vr_V th AR A y L) : vr_K al m AR A y L th := by
  refine ⟨fun w hw => ?_, ?_, fun c => absurd c h3⟩
  · rw [← e] at hw
    obtain ⟨v, v1, v2⟩ := vx_oc_re.mp hw
    have v0 := (hg m).2 v v1
    unfold vx_ix at v2
    by_cases c : v < (xs.length : Int)
    · rw [if_pos c] at v2
      have h1 := List.getElem?_eq_getElem (show v.toNat < xs.length by omega)
      rw [vx_getD h1] at v2
      rw [← v2]
      exact hx _ (List.mem_of_getElem? h1)
    · rw [if_neg c] at v2
      exact hL w (by omega)
  · rw [← e, vx_sz_re]
    exact Nat.le_refl _
theorem vr_K_up {s : sx_S} {AR AR' : Nat → List Int} (hI : cx_I s) (hA : ∀ j : Nat, (j : Int) < s.1 66 50 → AR' j = AR j) {al al' : Int → Prop} (ha : ∀ w, al w → al' w) {m : Int} {th : Int → rf_N} {A : rf_N} {y : rf_Y} {L : Int} : (vr_t s AR A → vr_K al m AR A y L th → vr_K al' m AR' A y L th) ∧ (vr_r s AR A → vr_Kr al m AR A y L th → vr_Kr al' m AR' A y L th) := by
  constructor
  · rintro h ⟨k1, k2, k3⟩
    unfold vr_K
    rw [(vr_V_up hI hA).1 h]
    exact ⟨fun w hw => ha w (k1 w hw), k2, k3⟩
  · rintro h ⟨k1, k2⟩
    unfold vr_Kr
    rw [(vr_V_up hI hA).2 h]
    exact ⟨fun w hw => ha w (k1 w hw), k2⟩
theorem vr_K_ag {s : sx_S} {AR AR' : Nat → List Int} (hI : cx_I s) {al : Int → Prop} {m : Int} (hm : 0 ≤ m ∧ m < s.1 66 61) {th th' : Int → rf_N} (hag : vx_ag (s.1 66 61) th th') {A : rf_N} {y : rf_Y} {L : Int} : (vr_t s AR' A → vr_K al m AR A y L th → vr_K al m AR A y L th') ∧ (vr_r s AR' A → vr_Kr al m AR A y L th → vr_Kr al m AR A y L th') := by
  constructor
  · rintro h ⟨k1, k2, k3⟩
    unfold vr_K
    rw [(vr_V_ag hI hag).1 h, hag m hm.1 hm.2]
    exact ⟨k1, k2, k3⟩
  · rintro h ⟨k1, k2⟩
    unfold vr_Kr
    rw [(vr_V_ag hI hag).2 h, hag m hm.1 hm.2]
    exact ⟨k1, k2⟩
theorem vr_S_EG {t : sx_S} {g g' : rf_Gh} {AR : Nat → List Int} (h : rf_EG t g g') : vr_S t g' AR = vr_S t g AR := by
  have : vr_bo t g' = vr_bo t g := by
    funext u
    by_cases c : (0 ≤ u ∧ u < t.1 66 61) ∧ t.2.1 111 u.toNat ≠ 0
    · obtain ⟨h1, h2⟩ := (h u c.1.1 c.1.2).1 c.2
      rw [vr_bo_at c.1 c.2, vr_bo_at c.1 c.2, h1]
      have : vr_e t g' u = vr_e t g u := by
        funext z
        unfold vr_e
        rw [h2]
      rw [this]
    · unfold vr_bo
      rw [if_neg c, if_neg c]
  unfold vr_S
  rw [this]
