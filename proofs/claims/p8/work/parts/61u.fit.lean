/-! ===== a step of the walk ===== -/
/-- links and the walk's pile alone have changed -/
theorem dv_WK_F {tv tc : Int → rf_T} {n0 : Int} {Qs : (Int → rf_N) → Prop} {p : vx_P} {root : rf_N × (Int → Int)} {r : List dv_E} {sf L : Int} {AL : Int → Prop} {bs : Nat} {mk0 : Int} {cL cR : List (Int × Int)} {s u : sx_S} {S : vx_S} {PR : Int → List (Int × Int)} {tm : Int → Int → rf_T} {cur cur' : List (rf_N × (Int → Int))} {ws ws' : List dv_K} (h : dv_WK tv tc n0 Qs p root r sf L AL bs mk0 cL cR s S PR tm cur ws) (hI : cx_I u) (hF : cx_F [(29, 32), (46, 52)] s u) (hl : dv_lm mk0 s u) (hws : dv_ws u S.2.2.2.2 (u.1 29 3) ws') (h46 : u.1 46 6 = (ws'.length : Int)) (hH : vx_H S sf AL (dv_sn s) (dv_se s) (cur' ++ ws'.map dv_kf) root) (hKn : vx_Kn S AL p root (cur' ++ ws'.map dv_kf)) (hks : dv_ks tv tc tm S bs L ws') (hin : ∀ q ∈ cur', vx_in S q.1) (hm : ∀ k ∈ ws', mk0 ≤ k.2.2) : dv_WK tv tc n0 Qs p root r sf L AL bs mk0 cL cR u S PR tm cur' ws' ∧ dv_WF mk0 s u S S := by
  obtain ⟨hG, _, ⟨f7, f12, L0, fal⟩, hse, _, _, ⟨o1, o2, o3, _⟩, hbs, hmk, hmks, hps, h2p⟩ := h trivial
  obtain ⟨g1, g2, g3, g4, ⟨g5, g6⟩, g7, g8⟩ := hG trivial
  obtain ⟨⟨M1, M2, M3, M5⟩, M4⟩ := g2 trivial
  have nf : dv_nf (s.1 11 6) S.2.2.2.2 S.2.2.2.2 s u := dv_nf_F _ hF (by decide)
  have e53 : u.2.1 53 = s.2.1 53 := (hF.same 53 rfl).2
  have e54 : u.2.1 54 = s.2.1 54 := (hF.same 54 rfl).2
  have e38 : u.1 38 = s.1 38 := (hF.same 38 rfl).1
  have esn : dv_sn u = dv_sn s := by
    funext y
    unfold dv_sn
    rw [e53]
  have ese : dv_se u = dv_se s := by
    funext y z
    unfold dv_se
    rw [e53]
  have ps' : dv_ps u S.2.2.2.2 mk0 r := dv_ps_fr (Int.le_refl _) nf (hl trivial).2 (fun i _ => by
    rw [(hF.same 40 rfl).2, (hF.same 41 rfl).2, (hF.same 42 rfl).2, (hF.same 43 rfl).2, (hF.same 44 rfl).2, (hF.same 45 rfl).2]
    exact ⟨rfl, rfl, rfl, rfl, rfl, rfl⟩) hps
  refine ⟨fun _ => ⟨fun _ => ⟨hI, dv_M_fr (Int.le_refl _) (by rw [(hF.same 11 rfl).1]) nf (by rw [(hF.same 33 rfl).1]) (hF.same 34 rfl).2 (hF.same 35 rfl).2 (hF.same 36 rfl).2 (hF.same 37 rfl).2 g2, g3, g4, ⟨dv_ps_hi (hl trivial).1 ps', by rw [(hF.same 39 rfl).1]; exact g6⟩, g7, g8⟩, ⟨hws, h46⟩, ⟨by rw [e38]; exact f7, by rw [e38]; exact f12, L0, fun v => by rw [← fal v]; unfold dv_al; rw [e38, e54]⟩, by rw [e53]; exact hse, ⟨by rw [esn, ese]; exact hH, hKn⟩, hks, ⟨o1, o2, o3, hin⟩, hbs, (hl trivial).1, hm, ps', h2p⟩, fun _ => ⟨cx_F_step hF rfl (cx_F_refl _ _), hl, vx_l2_refl S, nf, ⟨M2, by rw [(hF.same 11 rfl).1]; exact M2⟩, e54⟩⟩
theorem dv_ms_e {s u : sx_S} {ws : List dv_K} (h : u.2.1 53 = s.2.1 53) : dv_ms u ws = dv_ms s ws := by
  unfold dv_ms dv_cs
  rw [h]
/-- the pile of ARGs -/
def dv_wz (F : rf_N) (c : List (Int × Int)) (L mk : Int) : List dv_K := (vx_el F).map (fun a => ((a, c), L, mk))
theorem dv_wz_kf {F : rf_N} {c : List (Int × Int)} {L mk : Int} : (dv_wz F c L mk).map dv_kf = (vx_el F).map (fun A => (A, dv_lk c)) := by
  unfold dv_wz
  rw [List.map_map]
  rfl
theorem dv_wz_len {F : rf_N} {c : List (Int × Int)} {L mk : Int} : (dv_wz F c L mk).length = rf_len F := by
  unfold dv_wz
  rw [List.length_map, vx_el_len]
theorem dv_wz_hz {c : List (Int × Int)} {L mk : Int} {ws : List dv_K} : ∀ {F : rf_N}, dv_hz (dv_wz F c L mk ++ ws) = vx_hz F + dv_hz ws
  | .leaf => by
    show dv_hz ws = 0 + dv_hz ws
    omega
  | .inner j q u F X => by
    have ih := dv_wz_hz (c := c) (L := L) (mk := mk) (ws := ws) (F := X)
    show vx_hz (.inner j q () F .leaf) + dv_hz (dv_wz X c L mk ++ ws) = _
    rw [ih, vx_hz_in, vx_hz_in]
    have e : vx_hz .leaf = 0 := rfl
    omega
theorem dv_ks_wz {tv tc : Int → rf_T} {tm : Int → Int → rf_T} {S : vx_S} {bs : Nat} {L L' mk : Int} {c : List (Int × Int)} {ws : List dv_K} (hL : L ≤ L') (hks : dv_ks tv tc tm S bs L ws) : ∀ {l : List rf_N}, l.length ≤ 4 → (∀ A ∈ l, (∃ lt t, vx_sd tv tc tm S lt L' t A c) ∧ ∀ i', i' ≤ ws.length + 3 → vx_c1 S bs A mk L' i') → dv_ks tv tc tm S bs L (l.map (fun a => ((a, c), L', mk)) ++ ws)
  | [], _, _ => hks
  | A :: l, h4, h => by
    rw [List.length_cons] at h4
    refine ⟨⟨(h A List.mem_cons_self).1, hL, (h A List.mem_cons_self).2 _ ?_⟩, dv_ks_wz hL hks (by omega) (fun B hB => h B (List.mem_cons_of_mem _ hB))⟩
    show (l.map _ ++ ws).length ≤ ws.length + 3
    rw [List.length_append, List.length_map]
    omega
