/-! ===== the walk: what holds between its steps ===== -/
def dv_kf (k : dv_K) : rf_N × (Int → Int) := (k.1.1, dv_lk k.1.2)
def dv_sn (s : sx_S) (m : Int) : Prop := (0 ≤ m ∧ m < 32) ∧ s.2.1 53 m.toNat ≠ 31
def dv_se (s : sx_S) (m i : Int) : Prop := (0 ≤ m ∧ 0 ≤ i) ∧ dv_tb (s.2.1 53 m.toNat) i.toNat = true
def dv_ks (tv tc : Int → rf_T) (tm : Int → Int → rf_T) (S : vx_S) (bs : Nat) (L : Int) : List dv_K → Prop
  | [] => True
  | k :: r => ((∃ lt t, vx_sd tv tc tm S lt k.2.1 t k.1.1 k.1.2) ∧ L ≤ k.2.1 ∧ vx_c1 S bs k.1.1 k.2.2 k.2.1 r.length) ∧ dv_ks tv tc tm S bs L r
theorem dv_ks_le {tv tc : Int → rf_T} {tm tm' : Int → Int → rf_T} {S T : vx_S} {bs : Nat} {L : Int} (hW : vx_W S) (hle : vx_le S T) (hU : ∀ v i, v < S.1 → vx_U T v i → vx_U S v i) (hm : ∀ m i, m < S.1 → tm' m i = tm m i) : ∀ {r : List dv_K}, dv_ks tv tc tm S bs L r → dv_ks tv tc tm' T bs L r
  | [], _ => trivial
  | p :: r, ⟨⟨⟨lt, t, h1⟩, h2, h3⟩, h4⟩ => ⟨⟨⟨lt, t, vx_sd_le hle hU hm h1⟩, h2, vx_c1_le hle hW h3⟩, dv_ks_le hW hle hU hm h4⟩
theorem dv_ks_in {tv tc : Int → rf_T} {tm : Int → Int → rf_T} {S : vx_S} {bs : Nat} {L : Int} : ∀ {r : List dv_K}, dv_ks tv tc tm S bs L r → ∀ q ∈ r.map dv_kf, vx_in S q.1
  | [], _, q, hq => absurd hq List.not_mem_nil
  | p :: r, ⟨⟨⟨lt, t, h1⟩, _⟩, h3⟩, q, hq => by
    rw [List.map_cons] at hq
    rcases List.mem_cons.mp hq with rfl | hq
    · exact (h1 trivial).1.1
    · exact dv_ks_in h3 q hq
/-- cur: what is looked at just now; ws: the pile -/
def dv_WK (tv tc : Int → rf_T) (n0 : Int) (Qs : (Int → rf_N) → Prop) (p : vx_P) (root : rf_N × (Int → Int)) (r : List dv_E) (sf L : Int) (AL : Int → Prop) (bs : Nat) (mk0 : Int) (cL cR : List (Int × Int)) (u : sx_S) (S : vx_S) (PR : Int → List (Int × Int)) (tm : Int → Int → rf_T) (cur : List (rf_N × (Int → Int))) (ws : List dv_K) : Prop := True → dv_G tv tc n0 Qs u S PR tm [p] r ∧ (dv_ws u S.2.2.2.2 (u.1 29 3) ws ∧ u.1 46 6 = (ws.length : Int)) ∧ (u.1 38 7 = sf ∧ u.1 38 12 = L ∧ 0 ≤ L ∧ ∀ v, dv_al u v ↔ AL v) ∧ (∀ m : Nat, m < 32 → 0 ≤ u.2.1 53 m ∧ u.2.1 53 m < 32) ∧ (vx_H S sf AL (dv_sn u) (dv_se u) (cur ++ ws.map dv_kf) root ∧ vx_Kn S AL p root (cur ++ ws.map dv_kf)) ∧ dv_ks tv tc tm S bs L ws ∧ (S.2.2.2.1 sf = none ∧ 0 ≤ sf ∧ (vx_in S root.1 ∧ vx_in S p.1.1 ∧ vx_in S p.2.1.1) ∧ ∀ q ∈ cur, vx_in S q.1) ∧ (bs ≤ 385 ∧ mk0 ≤ u.1 29 3 ∧ (∀ k ∈ ws, mk0 ≤ k.2.2) ∧ dv_ps u S.2.2.2.2 mk0 r ∧ vx_2 tv tc tm S p.1.1 cL p.2.1.1 cR L)
/-- what a part of the walk leaves as it was -/
def dv_WF (mk0 : Int) (s u : sx_S) (S T : vx_S) : Prop := True → cx_F [(11, 17), (29, 37), (46, 54)] s u ∧ dv_lm mk0 s u ∧ vx_l2 (fun _ => False) S T ∧ dv_nf (s.1 11 6) S.2.2.2.2 T.2.2.2.2 s u ∧ (s.1 11 6 = S.2.1 ∧ u.1 11 6 = T.2.1) ∧ u.2.1 54 = s.2.1 54
theorem dv_WF_t {mk0 : Int} {s t u : sx_S} {S T R : vx_S} (h1 : dv_WF mk0 s t S T) (h2 : dv_WF mk0 t u T R) : dv_WF mk0 s u S R := fun _ => by
  obtain ⟨a1, a2, a3, a4, a5, a6⟩ := h1 trivial
  obtain ⟨b1, b2, b3, b4, b5, b6⟩ := h2 trivial
  refine ⟨cx_F_step b1 rfl a1, fun _ => ⟨(b2 trivial).1, fun j hj => ?_⟩, vx_l2_trans a3 b3, fun _ => ⟨dz_fr_t (b4 trivial).1 (a4 trivial).1 (fun j hj => ?_), fun j hj => ?_⟩, ⟨a5.1, b5.2⟩, b6.trans a6⟩
  · obtain ⟨c1, c2, c3⟩ := (a2 trivial).2 j hj
    obtain ⟨d1, d2, d3⟩ := (b2 trivial).2 j hj
    exact ⟨d1.trans c1, d2.trans c2, d3.trans c3⟩
  · have hj' : (j : Int) < s.1 11 6 := hj
    have := a3.1.1.2
    show (j : Int) < t.1 11 6
    omega
  · have := a3.1.1.2
    exact ((b4 trivial).2 j (by omega)).trans ((a4 trivial).2 j hj)
/-- how long it may still be -/
def dv_cd (k : Int) : Nat := (if dv_tb k 0 then 1 else 0) + (if dv_tb k 1 then 1 else 0) + (if dv_tb k 2 then 1 else 0) + (if dv_tb k 3 then 1 else 0) + (if dv_tb k 4 then 1 else 0)
theorem dv_cd_d : ∀ k l : Fin 32, dv_and (k.val : Int) (l.val : Int) ≠ (k.val : Int) → dv_cd (dv_and (k.val : Int) (l.val : Int)) < dv_cd (k.val : Int) := by decide
theorem dv_cd_lt {k l : Int} (h0 : 0 ≤ k) (h1 : k < 32) (g0 : 0 ≤ l) (g1 : l < 32) (h : dv_and k l ≠ k) : dv_cd (dv_and k l) < dv_cd k := by
  have := dv_cd_d ⟨k.toNat, by omega⟩ ⟨l.toNat, by omega⟩
  have e : ((k.toNat : Nat) : Int) = k := Int.toNat_of_nonneg h0
  have e' : ((l.toNat : Nat) : Int) = l := Int.toNat_of_nonneg g0
  dsimp only at this
  rw [e, e'] at this
  exact this h
def dv_cs (s : sx_S) : Nat := vx_sm (fun m => dv_cd (s.2.1 53 m.toNat)) 32
def dv_hz : List dv_K → Nat
  | [] => 0
  | k :: r => vx_hz k.1.1 + dv_hz r
def dv_ms (s : sx_S) (ws : List dv_K) : Nat := dv_hz ws + 1025 * dv_cs s
/-- there is no solution -/
def vx_NO (n0 : Int) (Qs : (Int → rf_N) → Prop) (S : vx_S) : Prop := ∀ th0, vx_gd th0 → (∀ u, 0 ≤ u → u < n0 → vx_sc (th0 u) (S.2.2.1 u)) → ¬ Qs th0
theorem vx_NO_le {n0 : Int} {Qs : (Int → rf_N) → Prop} {S T : vx_S} (hle : vx_le S T) (hn : n0 ≤ S.1) (h : vx_NO n0 Qs T) : vx_NO n0 Qs S := fun th0 g s => h th0 g (fun u u0 hu => by rw [hle.2.1 u u0 (by omega)]; exact s u u0 hu)
/-- an open call that has no ARG too many -/
theorem vx_O_open {S : vx_S} {sf : Int} {AL : Int → Prop} {j : Nat} {m : Int} {F : rf_N} {e : Int → Int} (hm : S.2.2.2.1 m = none) (hs : m ≠ sf) (ha : ∀ y ∈ S.2.2.2.2 j, AL (e y)) : ∀ U G, vx_ex S U → vx_eg S sf G → vx_O U G S.2.2.2.2 AL (rf_n j 3 m F .leaf, e) := fun U G _ hg => ⟨vx_OK_call.mpr (fun i z h1 _ => ha z (List.mem_of_getElem? h1)), fun x hx => by
  rw [vx_mt_call hx]
  exact hg.1 m hm hs⟩
/-- after a narrowing the call is allowed, and what was found stays -/
theorem vx_H_nw {S T : vx_S} {x sf : Int} {AL : Int → Prop} {sn : Int → Prop} {se : Int → Int → Prop} {j jn : Nat} {F Fn : rf_N} {e eu : Int → Int} {zs ks : List Int} {pend : List (rf_N × (Int → Int))} {root : rf_N × (Int → Int)} (hW : vx_W S) (hn : vx_nw S T x jn Fn eu zs ks) (hs : x ≠ sf) (hsf : sf < S.1) (hp : ∀ c ∈ root :: (rf_n j 3 x F .leaf, e) :: pend, vx_in S c.1) (hk : ∀ (i : Nat) y, (S.2.2.2.2 j)[i]? = some y → (i : Int) ∈ ks → AL (e y)) (h : vx_H S sf AL sn se ((rf_n j 3 x F .leaf, e) :: pend) root) : vx_H T sf AL sn se pend root := by
  have hle := vx_nw_le hn
  have n := hn
  obtain ⟨⟨a1, a2, a3, a4, a5⟩, ⟨b1, b2, b3, b4⟩, c, d, f, g1, g2, g3, g4, g5⟩ := n
  have hbx : T.2.2.2.1 x = some (rf_n jn 3 S.1 Fn .leaf, eu) := by rw [d, if_pos rfl]
  have hbn : T.2.2.2.1 S.1 = none := by rw [d, if_neg (by omega)]; exact b2
  have gx : ∀ G, vx_eg T sf G → G x := fun G hg => hg.2 x _ _ hbx (fun y hy => by
    rw [vx_mt_call hy]
    exact hg.1 S.1 hbn (by omega))
  have h1 := vx_H_le hW hle hp (fun G hg m hm hms => by
    by_cases q : m = x
    · rw [q]
      exact gx G hg
    · exact hg.1 m (by rw [d, if_neg q]; exact hm) hms) h
  refine vx_H_drop (fun U G hx hg => ⟨vx_OK_call.mpr (fun i y i1 i2 => ?_), fun m hm => ?_⟩) h1
  · obtain ⟨z, z1, z2⟩ := hx x _ _ _ hbx i2
    have hj : T.2.2.2.2 j = S.2.2.2.2 j := hle.2.2.2 j ((hp _ (List.mem_cons_of_mem _ List.mem_cons_self)).2.1 j List.mem_cons_self)
    rw [hj] at i1
    refine hk i y i1 ?_
    rcases z1 with (⟨q, _⟩ | ⟨_, i', q, _⟩ | ⟨_, q, _⟩) | q
    · exact absurd q vx_30
    · rw [← z2, ← g2, ← g1]
      exact List.mem_map_of_mem (List.mem_of_getElem? q)
    · exact absurd rfl q
    · exact q.elim
  · rw [vx_mt_call hm]
    exact gx G hg
