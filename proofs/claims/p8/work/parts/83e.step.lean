/-! ===== the desk: a step of numbering ===== -/
theorem wd_nd_inj {l : List Int} (h : l.Nodup) {p q : Nat} (hp : p < l.length) (hq : q < l.length) (e : l[p] = l[q]) : p = q := by
  have hh := List.pairwise_iff_getElem.mp h
  rcases Nat.lt_trichotomy p q with c | c | c
  · exact absurd e (hh p q hp hq c)
  · exact c
  · exact absurd e.symm (hh q p hq hp c)
/-- the writer's pile: entries (A, c), L, mark -/
def wd_ws (s : sx_S) (AR : Nat → List Int) : Int → List dv_K → Prop
  | _, [] => True
  | hi, p :: r => (p.2.2 ≤ hi ∧ 0 ≤ p.2.2) ∧ (dv_at s AR p.1.1 (s.2.1 57 r.length) ∧ dv_c s p.1.2 p.2.2 (s.2.1 58 r.length)) ∧ (s.2.1 61 r.length = p.2.1 ∧ s.2.1 62 r.length = p.2.2) ∧ wd_ws s AR p.2.2 r
theorem wd_ws_fr {s t : sx_S} {AR AR' : Nat → List Int} {n : Int} (hn : s.1 11 6 ≤ n) (h : dv_nf n AR AR' s t) : ∀ {r : List dv_K} {hi : Int}, (∀ j : Nat, (j : Int) < hi → t.2.1 30 j = s.2.1 30 j ∧ t.2.1 31 j = s.2.1 31 j ∧ t.2.1 32 j = s.2.1 32 j) → (∀ j : Nat, j < r.length → t.2.1 57 j = s.2.1 57 j ∧ t.2.1 58 j = s.2.1 58 j ∧ t.2.1 61 j = s.2.1 61 j ∧ t.2.1 62 j = s.2.1 62 j) → wd_ws s AR hi r → wd_ws t AR' hi r
  | [], _, _, _, _ => trivial
  | p :: r, hi, hc, hp, ⟨⟨q1, q2⟩, ⟨q3, q4⟩, ⟨q7, q8⟩, q9⟩ => by
    obtain ⟨e1, e2, e5, e6⟩ := hp r.length (by rw [List.length_cons]; omega)
    have hc' : ∀ j : Nat, (j : Int) < p.2.2 → t.2.1 30 j = s.2.1 30 j ∧ t.2.1 31 j = s.2.1 31 j ∧ t.2.1 32 j = s.2.1 32 j := fun j hj => hc j (by omega)
    refine ⟨⟨q1, q2⟩, ⟨?_, ?_⟩, ⟨by rw [e5]; exact q7, by rw [e6]; exact q8⟩, wd_ws_fr hn h hc' (fun j hj => hp j (by rw [List.length_cons]; omega)) q9⟩
    · rw [e1]
      exact dv_at_fr hn h q3
    · rw [e2]
      exact dv_ch_fr hc' q4
theorem wd_ws_hi {s : sx_S} {AR : Nat → List Int} {hi hi' : Int} (h : hi ≤ hi') : ∀ {r : List dv_K}, wd_ws s AR hi r → wd_ws s AR hi' r
  | [], _ => trivial
  | _ :: _, ⟨⟨q1, q2⟩, q3⟩ => ⟨⟨by omega, q2⟩, q3⟩
/-- numbers and orders in memory -/
def wd_N (s : sx_S) (S : vx_S) (a : List (Int × List Int)) : Prop := True → s.1 55 8 = (a.length : Int) ∧ (a.map Prod.fst).Nodup ∧ (∀ p ∈ a, ∃ m : Int, p.1 = -1 - m ∧ 0 ≤ m ∧ m < S.1) ∧ ∀ m : Int, 0 ≤ m → m < S.1 → (S.2.2.2.1 m = none → (s.2.1 63 m.toNat = -1 ∧ -1 - m ∉ a.map Prod.fst) ∨ ∃ (i : Nat) (xs : List Int), a[i]? = some (-1 - m, xs) ∧ s.2.1 63 m.toNat = (i : Int) ∧ (xs.length : Int) = S.2.2.1 m ∧ (∀ p q : Nat, p < xs.length → q < xs.length → xs.getD p (-1) = xs.getD q (-1) → p = q) ∧ ∀ k : Nat, k < xs.length → s.2.1 64 (m * 4 + ((rf_rnk (fun i => xs.getD i (-1)) xs.length k : Nat) : Int)).toNat = (k : Int)) ∧ (S.2.2.2.1 m ≠ none → -1 ≤ s.2.1 63 m.toNat ∧ s.2.1 63 m.toNat ≤ 0)
theorem wd_N_same {s t : sx_S} {S : vx_S} {a : List (Int × List Int)} (e8 : t.1 55 8 = s.1 55 8) (e63 : t.2.1 63 = s.2.1 63) (e64 : t.2.1 64 = s.2.1 64) (h : wd_N s S a) : wd_N t S a := fun _ => by
  have h' := h trivial
  rw [e8, e63, e64]
  exact h'
theorem wd_N_len {s : sx_S} {S : vx_S} {a : List (Int × List Int)} (h32 : S.1 ≤ 32) (h : wd_N s S a) : a.length ≤ 32 := by
  obtain ⟨_, h2, h3, _⟩ := h trivial
  have h4 : (a.map (fun p => -1 - p.1)).Nodup := by
    have e : a.map (fun p => -1 - p.1) = (a.map Prod.fst).map (fun x => -1 - x) := by
      rw [List.map_map]
      rfl
    rw [e]
    exact List.Pairwise.map (fun x => -1 - x) (fun x y hxy e => hxy (by omega)) h2
  have := vx_ls_1 (n := 32) h4 (fun x hx => by
    obtain ⟨p, hp, rfl⟩ := List.mem_map.mp hx
    obtain ⟨m, e, m0, m1⟩ := h3 p hp
    omega)
  rw [List.length_map] at this
  exact this
/-- the given unknowns that were read -/
def wd_sn (s : sx_S) (S : vx_S) (m : Int) : Prop := (0 ≤ m ∧ m < S.1) ∧ S.2.2.2.1 m ≠ none ∧ 0 ≤ s.2.1 63 m.toNat
def wd_it (k : dv_K) : wd_I := (k.1.1, dv_lk k.1.2, k.2.1)
/-- what holds while it numbers: cur is looked at just now; then the pile ws; a: what is numbered, Z: what will be -/
def wd_K (tv tc : Int → rf_T) (n0 : Int) (Qs : (Int → rf_N) → Prop) (th : Int → rf_N) (rk : Int → Nat) (bs : Nat) (Z : List (Int × List Int)) (u : sx_S) (S : vx_S) (PR : Int → List (Int × Int)) (tm : Int → Int → rf_T) (a : List (Int × List Int)) (cur : List wd_I) (ws : List dv_K) : Prop := True → dv_G tv tc n0 Qs u S PR tm [] [] ∧ (wd_ws u S.2.2.2.2 (u.1 29 3) ws ∧ u.1 56 6 = (ws.length : Int)) ∧ wd_N u S a ∧ wd_P th S.2.2.2.2 rk (wd_sn u S) a Z (cur ++ ws.map wd_it) ∧ wd_ks S bs 0 ws ∧ (vx_So S th ∧ (∀ m, S.2.2.2.1 m = none → th m = vx_gn S.2.2.1 m) ∧ vx_rk S rk ∧ bs ≤ 385)
def wd_cs (s : sx_S) : Nat := vx_sm (fun m => if s.2.1 63 m.toNat < 0 then 1 else 0) 32
def wd_ms (s : sx_S) (ws : List dv_K) : Nat := dv_hz ws + 1025 * wd_cs s
theorem wd_ms_e {s u : sx_S} {ws : List dv_K} (h : u.2.1 63 = s.2.1 63) : wd_ms u ws = wd_ms s ws := by
  unfold wd_ms wd_cs
  rw [h]
theorem wd_G_F {tv tc : Int → rf_T} {n0 : Int} {Qs : (Int → rf_N) → Prop} {s u : sx_S} {S : vx_S} {PR : Int → List (Int × Int)} {tm : Int → Int → rf_T} (h : dv_G tv tc n0 Qs s S PR tm [] []) (hI : cx_I u) (hF : cx_F [(29, 32), (55, 65)] s u) : dv_G tv tc n0 Qs u S PR tm [] [] := fun _ => by
  obtain ⟨g1, g2, g3, g4, ⟨_, g6⟩, g7, g8⟩ := h trivial
  have nf : dv_nf (s.1 11 6) S.2.2.2.2 S.2.2.2.2 s u := dv_nf_F _ hF (by decide)
  exact ⟨hI, dv_M_fr (Int.le_refl _) (by rw [(hF.same 11 rfl).1]) nf (by rw [(hF.same 33 rfl).1]) (hF.same 34 rfl).2 (hF.same 35 rfl).2 (hF.same 36 rfl).2 (hF.same 37 rfl).2 g2, g3, g4, ⟨trivial, by rw [(hF.same 39 rfl).1]; exact g6⟩, g7, g8⟩
/-- links and the pile alone have changed -/
theorem wd_K_F {tv tc : Int → rf_T} {n0 : Int} {Qs : (Int → rf_N) → Prop} {th : Int → rf_N} {rk : Int → Nat} {bs : Nat} {Z : List (Int × List Int)} {s u : sx_S} {S : vx_S} {PR : Int → List (Int × Int)} {tm : Int → Int → rf_T} {a : List (Int × List Int)} {cur cur' : List wd_I} {ws ws' : List dv_K} (h : wd_K tv tc n0 Qs th rk bs Z s S PR tm a cur ws) (hI : cx_I u) (hF : cx_F [(29, 32), (56, 62)] s u) (hws : wd_ws u S.2.2.2.2 (u.1 29 3) ws') (h56 : u.1 56 6 = (ws'.length : Int)) (hP : wd_P th S.2.2.2.2 rk (wd_sn s S) a Z (cur' ++ ws'.map wd_it)) (hks : wd_ks S bs 0 ws') : wd_K tv tc n0 Qs th rk bs Z u S PR tm a cur' ws' := fun _ => by
  obtain ⟨hG, _, hN, _, _, hS⟩ := h trivial
  have e63 : u.2.1 63 = s.2.1 63 := (hF.same 63 rfl).2
  have esn : wd_sn u S = wd_sn s S := by
    funext m
    unfold wd_sn
    rw [e63]
  exact ⟨wd_G_F hG hI (cx_F_step hF rfl (cx_F_refl _ _)), ⟨hws, h56⟩, wd_N_same (by rw [(hF.same 55 rfl).1]) e63 (hF.same 64 rfl).2 hN, by rw [esn]; exact hP, hks, hS⟩
theorem wd_wz_it {F : rf_N} {c : List (Int × Int)} {L mk : Int} : (dv_wz F c L mk).map wd_it = (vx_el F).map (fun A => (A, dv_lk c, L)) := by
  unfold dv_wz
  rw [List.map_map]
  rfl
/-- the call of an open unknown: what is met there -/
theorem wd_open {S : vx_S} {th : Int → rf_N} (hS : vx_So S th) {j : Nat} {m L : Int} {F : rf_N} {e : Int → Int} (ho : th m = vx_gn S.2.2.1 m) (hl : ((S.2.2.2.2 j).length : Int) = S.2.2.1 m) : ∃ Fv, wd_v th S.2.2.2.2 (rf_n j 3 m F .leaf, e, L) = rf_n 0 1 (-1 - m) Fv .leaf ∧ dz_hs Fv = (S.2.2.2.2 j).map e := by
  refine ⟨vx_re (vx_ix ((S.2.2.2.2 j).map e) L) (vx_vs (S.2.2.1 m).toNat 0), ?_, ?_⟩
  · show vx_val th S.2.2.2.2 (rf_n j 3 m F .leaf) e L = _
    rw [vx_call (fun m => (hS.1 m).1), ho]
    unfold vx_gn
    rw [vx_re_in]
    dsimp only
    rw [if_neg (by decide)]
    rfl
  · obtain ⟨a, b, c⟩ := wz_vs (S.2.2.1 m).toNat 0
    rw [wz_hs_re _ a]
    refine List.ext_getElem? (fun i => ?_)
    rw [List.getElem?_map, List.getElem?_map]
    by_cases hi : i < (S.2.2.1 m).toNat
    · have hi2 : i < (S.2.2.2.2 j).length := by omega
      rw [c i hi, List.getElem?_eq_getElem hi2]
      show some (vx_ix ((S.2.2.2.2 j).map e) L (0 + (i : Int))) = some (e (S.2.2.2.2 j)[i])
      unfold vx_ix
      rw [List.length_map, if_pos (by omega), show (0 + (i : Int)).toNat = i by omega, vx_getD_map e _ _ hi2, vx_gD hi2]
    · rw [List.getElem?_eq_none (by omega), List.getElem?_eq_none (by omega)]
      rfl
/-- one more is numbered -/
theorem wd_N_add {s t : sx_S} {S : vx_S} {a : List (Int × List Int)} {m : Int} {xs : List Int} (h : wd_N s S a) (m0 : 0 ≤ m) (m1 : m < S.1) (hb : S.2.2.2.1 m = none) (hs : s.2.1 63 m.toNat < 0) (hl : (xs.length : Int) = S.2.2.1 m) (h4 : ∀ x, 0 ≤ x → x < S.1 → S.2.2.1 x ≤ 4) (hin : ∀ p q : Nat, p < xs.length → q < xs.length → xs.getD p (-1) = xs.getD q (-1) → p = q) (e8 : t.1 55 8 = s.1 55 8 + 1) (e63 : ∀ j : Nat, t.2.1 63 j = if j = m.toNat then s.1 55 8 else s.2.1 63 j) (hO : dw_O m xs.length (fun i => xs.getD i (-1)) s t) : -1 - m ∉ a.map Prod.fst ∧ wd_N t S (a ++ [(-1 - m, xs)]) := by
  obtain ⟨h1, h2, h3, h5⟩ := h trivial
  obtain ⟨o1, o2⟩ := hO trivial
  have hno : -1 - m ∉ a.map Prod.fst := by
    rcases (h5 m m0 m1).1 hb with ⟨_, c⟩ | ⟨i, xs', _, c, _⟩
    · exact c
    · omega
  refine ⟨hno, fun _ => ⟨by rw [e8, h1, List.length_append]; rfl, ?_, fun p hp => ?_, fun x x0 x1 => ⟨fun hx => ?_, fun hx => ?_⟩⟩⟩
  · rw [List.map_append, List.nodup_append]
    refine ⟨h2, List.nodup_cons.mpr ⟨List.not_mem_nil, List.nodup_nil⟩, fun z hz w hw e => hno ?_⟩
    have : w = -1 - m := List.mem_singleton.mp hw
    rw [← this, ← e]
    exact hz
  · rcases List.mem_append.mp hp with hp | hp
    · exact h3 p hp
    · rw [List.mem_singleton.mp hp]
      exact ⟨m, rfl, m0, m1⟩
  · by_cases c : x = m
    · subst c
      exact Or.inr ⟨a.length, xs, by rw [List.getElem?_append_right (Nat.le_refl _), Nat.sub_self]; rfl, by rw [e63, if_pos rfl]; exact h1, hl, hin, o1⟩
    · have hxn : x.toNat ≠ m.toNat := by omega
      rcases (h5 x x0 x1).1 hx with ⟨c1, c2⟩ | ⟨i, ys, c1, c2, c3, c4, c5⟩
      · refine Or.inl ⟨by rw [e63, if_neg hxn]; exact c1, ?_⟩
        rw [List.map_append, List.mem_append]
        rintro (z | z)
        · exact c2 z
        · have : -1 - x = -1 - m := List.mem_singleton.mp z
          omega
      · refine Or.inr ⟨i, ys, ?_, by rw [e63, if_neg hxn]; exact c2, c3, c4, fun k hk => ?_⟩
        · have hi : i < a.length := (List.getElem?_eq_some_iff.mp c1).1
          rw [List.getElem?_append_left hi]
          exact c1
        · have hrk := rf_rnk_lt (D := fun i => ys.getD i (-1)) (n := ys.length) hk
          have h4x := h4 x x0 x1
          rw [o2 _ (by omega)]
          exact c5 k hk
  · have hxm : x ≠ m := fun e => hx (by rw [e]; exact hb)
    rw [e63, if_neg (by omega)]
    exact (h5 x x0 x1).2 hx
set_option maxRecDepth 4000 in
theorem c_dw_ns {tv tc : Int → rf_T} {n0 : Int} {Qs : (Int → rf_N) → Prop} {th : Int → rf_N} {rk : Int → Nat} {bs : Nat} {Z : List (Int × List Int)} {sL : Nat} {sx : Nat → Int32} (hsL : sL ≤ 3072) (d : Nat) (hd : 7 ≤ d) : ∀ (S : vx_S) (PR : Int → List (Int × Int)) (tm : Int → Int → rf_T) (a : List (Int × List Int)) (k : dv_K) (ws : List dv_K) (s : sx_S) (K : Int → sx_S → Prop), wd_K tv tc n0 Qs th rk bs Z s S PR tm a [] (k :: ws) → (∀ u a' ws', wd_K tv tc n0 Qs th rk bs Z u S PR tm a' [] ws' → cx_F [(29, 32), (55, 64)] s u → u.1 55 11 = s.1 55 11 → wd_ms u ws' < wd_ms s (k :: ws) → K 0 u) → sx_C sL sx d 125 [.inr (.inl 55)] s K := by
  intro S PR tm a k ws s K hWK hK
  obtain ⟨hG, ⟨⟨⟨w1, w2⟩, ⟨w3, w4⟩, ⟨w5, w6⟩, w7⟩, w8⟩, hN, hP, ⟨⟨k1, k2, k3⟩, k4⟩, hS, ho, hrk, hbs⟩ := hWK trivial
  obtain ⟨g1, g2, g3, g4, ⟨g5, g6⟩, g7, g8⟩ := hG trivial
  obtain ⟨⟨W, B1, Sc, _⟩, TS⟩ := g3 trivial
  obtain ⟨⟨M1, M2, M3, M5⟩, M4⟩ := g2 trivial
  have hg : ∀ m, vx_on (th m) := fun m => (hS.1 m).1
  rw [List.length_cons] at w8
  have en : (s.1 56 6 - 1).toNat = ws.length := by omega
  have msk : wd_ms s (k :: ws) = vx_hz k.1.1 + wd_ms s ws := by
    unfold wd_ms
    show vx_hz k.1.1 + dv_hz ws + _ = _
    omega
  obtain ⟨d, rfl⟩ : ∃ e, d = e + 2 := ⟨d - 2, by omega⟩
  refine sx_methL (wr := true) (n := 400) (n' := 400) (stop := [(48, [0, 1, 2, 3, 4]), (127, [0, 1, 2, 3, 4]), (165, [0, 1, 2, 3])]) (fun nn pc ls u => (pc = 48 ∧ ∃ (z cc L' : Int) (x4 : Nat) (A : rf_N) (c : List (Int × Int)), ls = [(0, .inr (.inl 55)), (1, .inl z), (2, .inl cc), (3, .inl L'), (4, .inl (x4 : Int))] ∧ wd_K tv tc n0 Qs th rk bs Z u S PR tm a [(A, dv_lk c, L')] ws ∧ (cx_F [(29, 32), (55, 64)] s u ∧ u.1 55 = s.1 55) ∧ u.2.1 63 = s.2.1 63 ∧ dv_at u S.2.2.2.2 A z ∧ dv_c u c (u.1 29 3) cc ∧ wd_sd S L' A c ∧ vx_c1 S bs A (u.1 29 3) L' ws.length ∧ vx_hz A ≤ vx_hz k.1.1 ∧ x4 + vx_lh A ≤ 67 ∧ nn = 200 + vx_lh A) ∨ (pc = 127 ∧ ∃ (z cc L' x4 : Int) (j : Nat) (kk h : Int) (F : rf_N) (c : List (Int × Int)) (v : sx_S), ls = [(0, .inr (.inl 55)), (1, .inl z), (2, .inl cc), (3, .inl L'), (4, .inl x4)] ∧ wd_K tv tc n0 Qs th rk bs Z v S PR tm a [(rf_n j kk h F .leaf, dv_lk c, L')] ws ∧ (cx_F [(29, 32), (55, 64)] s v ∧ v.1 55 = s.1 55) ∧ v.2.1 63 = s.2.1 63 ∧ dv_at v S.2.2.2.2 (rf_n j kk h F .leaf) z ∧ dv_c v c (v.1 29 3) cc ∧ wd_sd S L' (rf_n j kk h F .leaf) c ∧ vx_c1 S bs (rf_n j kk h F .leaf) (v.1 29 3) L' ws.length ∧ vx_hz (rf_n j kk h F .leaf) ≤ vx_hz k.1.1 ∧ (kk = 1 ∨ kk = 2) ∧ (-1 ≤ x4 ∧ x4 < (rf_len F : Int)) ∧ cx_I u ∧ cx_F [(56, 62)] v u ∧ wd_ws u S.2.2.2.2 (u.1 29 3) ((dv_wz F c L' (v.1 29 3)).drop (x4 + 1).toNat ++ ws) ∧ u.1 56 6 + x4 + 1 = (ws.length : Int) + (rf_len F : Int) ∧ nn = (x4 + 1).toNat) ∨ (pc = 165 ∧ ∃ (z cc L' : Int) (j : Nat) (h : Int) (F : rf_N) (c : List (Int × Int)), ls = [(0, .inr (.inl 55)), (1, .inl z), (2, .inl cc), (3, .inl L')] ∧ wd_K tv tc n0 Qs th rk bs Z u S PR tm a [(rf_n j 3 h F .leaf, dv_lk c, L')] ws ∧ (cx_F [(29, 32), (55, 64)] s u ∧ u.1 55 = s.1 55) ∧ u.2.1 63 = s.2.1 63 ∧ dv_at u S.2.2.2.2 (rf_n j 3 h F .leaf) z ∧ dv_c u c (u.1 29 3) cc ∧ wd_sd S L' (rf_n j 3 h F .leaf) c ∧ vx_c1 S bs (rf_n j 3 h F .leaf) (u.1 29 3) L' ws.length ∧ 1 ≤ vx_hz k.1.1 ∧ nn = 100)) hsL (e := eX10_numberStep) rfl ?_ ?_
  · refine w_dw_ns (c_dv_pop56 hsL (d + 1) (by omega)) (c_dv_pmark56 hsL (d + 1) (by omega)) (c_dv_rel hsL (d + 1) (by omega)) (c_dv_pnode56 hsL (d + 1) (by omega)) (c_dv_pchain56 hsL (d + 1) (by omega)) (c_dv_plevel56 hsL (d + 1) (by omega)) g1 (by omega) (by rw [en, w6]; omega) (fun u u1 u2 u3 u4 => ?_)
    rw [en] at u4 ⊢
    rw [w6] at u4
    have nf : dv_nf (s.1 11 6) S.2.2.2.2 S.2.2.2.2 s u := dv_nf_F _ u2 (by decide)
    have lk : ∀ i : Nat, u.2.1 30 i = s.2.1 30 i ∧ u.2.1 31 i = s.2.1 31 i ∧ u.2.1 32 i = s.2.1 32 i := fun i => by
      rw [(u2.same 30 rfl).2, (u2.same 31 rfl).2, (u2.same 32 rfl).2]
      exact ⟨rfl, rfl, rfl⟩
    have sws : wd_ws u S.2.2.2.2 (u.1 29 3) ws := by
      rw [u4]
      refine wd_ws_fr (Int.le_refl _) nf (fun i _ => lk i) (fun i _ => ?_) w7
      rw [(u2.same 57 rfl).2, (u2.same 58 rfl).2, (u2.same 61 rfl).2, (u2.same 62 rfl).2]
      exact ⟨rfl, rfl, rfl, rfl⟩
    have k1' := k1
    have v1 := wd_K_F (cur' := [wd_it k]) (ws' := ws) hWK u1 (cx_F_step u2 rfl (cx_F_refl _ _)) sws (by omega) hP k4
    have v1' : wd_K tv tc n0 Qs th rk bs Z u S PR tm a [(k.1.1, dv_lk k.1.2, s.2.1 61 ws.length)] ws := by
      rw [w5]
      exact v1
    refine ⟨_, Or.inl ⟨rfl, _, _, _, 0, k.1.1, k.1.2, rfl, v1', ⟨cx_F_step u2 rfl (cx_F_refl _ _), (u2.same 55 rfl).1⟩, (u2.same 63 rfl).2, dv_at_fr (Int.le_refl _) nf w3, by rw [u4]; exact dv_ch_fr (fun i _ => lk i) w4, by rw [w5]; exact k1', by rw [u4, w5]; exact k3, Nat.le_refl _, ?_, rfl⟩⟩
    obtain ⟨_, _, ⟨q, _⟩, _⟩ := k3 trivial
    omega
  · rintro nn pc ls u (⟨rfl, z, cc, L', x4, A, c, rfl, i1, ⟨i3, i3b⟩, i4, i5, i6, i7, i9, i10, i11, rfl⟩ | ⟨rfl, z, cc, L', x4, j, kk, h, F, c, v, rfl, i1, ⟨i3, i3b⟩, i4, i5, i6, i7, i9, i10, i11, i13, i14, i15, i16, i17, rfl⟩ | ⟨rfl, z, cc, L', j, h, F, c, rfl, i1, ⟨i3, i3b⟩, i4, i5, i6, i7, i9, i10, rfl⟩)
    · obtain ⟨hGu, ⟨x1, x2⟩, yN, yP, yks, _⟩ := i1 trivial
      obtain ⟨z1, _⟩ := hGu trivial
      have h29 := z1.fld 29 3 (by decide) rfl
      have rc := dv_ch_rng i6
      obtain ⟨b1, b2, b3, b4⟩ := vx_c1_bd hrk W g4 hbs i9
      obtain ⟨⟨in1, ⟨j, kk, h, F, rfl⟩⟩, ⟨L'0, _⟩, _⟩ := i7 trivial
      obtain ⟨q1, q2, q3, q4, q5, q6, q7, q8, q9, q10⟩ := dv_at_hd i5
      by_cases hk0 : kk = 0
      · subst hk0
        obtain ⟨⟨e1, e2, e3⟩, e4⟩ := dv_at_lam i5
        have hF : vx_sg F := by
          obtain ⟨a, b, c', d', ee, _⟩ := e4
          exact ⟨a, b, c', d', ee⟩
        obtain ⟨l1, l2⟩ := vx_lh_lam (j := j) (x := h) (F := F)
        rw [l1] at i11 b1 b2
        have sd' := wd_sd_lam hF i7
        refine w_dw_ns48y (c_dz_kind hsL (d + 1) (by omega)) (c_dz_head hsL (d + 1) (by omega)) (c_dz_body hsL (d + 1) (by omega)) (c_dv_with hsL (d + 1) (by omega)) z1 (dv_at_z i5) (by omega) (by omega) (by omega) e1 (by omega) (fun t u1 u2 u3 => ?_)
        rw [e2] at u3
        have p1 := (u3 trivial).1
        have lf := dv_w1_lf u3
        have nf : dv_nf (u.1 11 6) S.2.2.2.2 S.2.2.2.2 u t := dv_nf_F _ u2 (by decide)
        have sws : wd_ws t S.2.2.2.2 (t.1 29 3) ws := wd_ws_hi (lf trivial).1 (wd_ws_fr (Int.le_refl _) nf (lf trivial).2 (fun i _ => by
          rw [(u2.same 57 rfl).2, (u2.same 58 rfl).2, (u2.same 61 rfl).2, (u2.same 62 rfl).2]
          exact ⟨rfl, rfl, rfl, rfl⟩) x1)
        have v1 := wd_K_F (cur' := [(F, dv_lk ((h, L') :: c), L' + 1)]) (ws' := ws) i1 u1 (cx_F_step u2 rfl (cx_F_refl _ _)) sws (by rw [(u2.same 56 rfl).1]; exact x2) (by rw [dv_lk_up]; exact wd_P_lam yP) yks
        exact ⟨200 + vx_lh F, by rw [l1]; omega, Or.inl ⟨rfl, u.2.1 14 z.toNat, u.1 29 3, L' + 1, x4 + 1, F, (h, L') :: c, rfl, v1, ⟨cx_F_step u2 rfl i3, (u2.same 55 rfl).1.trans i3b⟩, by rw [(u2.same 63 rfl).2]; exact i4, dv_at_fr (Int.le_refl _) nf e4, dv_w1_c h29.1 u3 (Int.le_refl _) i6, sd', by rw [p1]; exact vx_c1_lam i9, by rw [vx_hz_lam vx_03] at i10; omega, by omega, rfl⟩⟩
      · obtain ⟨q7a, q7b⟩ := q7 hk0
        refine w_dw_ns48n (c_dz_kind hsL (d + 1) (by omega)) (c_dz_arity hsL (d + 1) (by omega)) z1 (dv_at_z i5) (by omega) (by omega) (by omega) (by rw [q3]; exact hk0) (by rw [q7a]; omega) (fun hk => ?_) (fun hk => ?_)
        · rw [q3] at hk
          refine ⟨rf_len F, by omega, Or.inr (Or.inl ⟨rfl, z, cc, L', _, j, kk, h, F, c, u, rfl, i1, ⟨i3, i3b⟩, i4, i5, i6, i7, i9, i10, by omega, by rw [q7a]; omega, z1, cx_F_refl _ _, ?_, by rw [q7a]; omega, by rw [q7a]; omega⟩)⟩
          have e1 : (u.2.1 16 z.toNat - 1 + 1).toNat = rf_len F := by omega
          rw [e1, List.drop_of_length_le (by rw [dv_wz_len]; exact Nat.le_refl _)]
          exact x1
        · rw [q3] at hk
          subst hk
          rw [vx_hz_call] at i10
          exact ⟨100, by omega, Or.inr (Or.inr ⟨rfl, z, cc, L', j, h, F, c, rfl, i1, ⟨i3, i3b⟩, i4, i5, i6, i7, i9, i10, rfl⟩)⟩
    · obtain ⟨hGu, ⟨x1, x2⟩, yN, yP, yks, _⟩ := i1 trivial
      obtain ⟨z1, _⟩ := hGu trivial
      have h29 := z1.fld 29 3 (by decide) rfl
      have rc := dv_ch_rng i6
      obtain ⟨b1, b2, b3, b4⟩ := vx_c1_bd hrk W g4 hbs i9
      obtain ⟨⟨in1, _⟩, ⟨L'0, _⟩, _⟩ := i7 trivial
      obtain ⟨q1, q2, q3, q4, q5, q6, q7, q8, q9, q10⟩ := dv_at_hd i5
      obtain ⟨q7a, q7b⟩ := q7 (by omega)
      have trF := q9 i11
      have hk0 : kk ≠ 0 := by omega
      have hk3 : kk ≠ 3 := by omega
      have nf : dv_nf (v.1 11 6) S.2.2.2.2 S.2.2.2.2 v u := dv_nf_F _ i15 (by decide)
      have e11 : u.1 11 = v.1 11 := (i15.same 11 rfl).1
      have e29 : u.1 29 = v.1 29 := (i15.same 29 rfl).1
      have lk : ∀ i : Nat, u.2.1 30 i = v.2.1 30 i ∧ u.2.1 31 i = v.2.1 31 i ∧ u.2.1 32 i = v.2.1 32 i := fun i => by
        rw [(i15.same 30 rfl).2, (i15.same 31 rfl).2, (i15.same 32 rfl).2]
        exact ⟨rfl, rfl, rfl⟩
      have zl := dv_wz_len (F := F) (c := c) (L := L') (mk := v.1 29 3)
      by_cases hx : 0 ≤ x4
      · have a3' : dz_nd u F (u.2.1 14 z.toNat) := by
          rw [(i15.same 14 rfl).2]
          exact dz_nd_fr q6 (nf trivial).1 (fun i hi => rf_nd_lt q6 i hi)
        have a8' : dv_tr (u.2.1 16) S.2.2.2.2 F := by rw [(i15.same 16 rfl).2]; exact trF
        obtain ⟨w, hw⟩ := dv_drx x4.toNat a3'
        obtain ⟨A, eA, tA⟩ := dv_el_at (by omega) a8' hw
        have hlt : x4.toNat < (dv_wz F c L' (v.1 29 3)).length := by omega
        have zat : (dv_wz F c L' (v.1 29 3))[x4.toNat]? = some ((A, c), L', v.1 29 3) := by
          unfold dv_wz
          rw [List.getElem?_map, eA]
          rfl
        have zdr : (dv_wz F c L' (v.1 29 3)).drop x4.toNat = ((A, c), L', v.1 29 3) :: (dv_wz F c L' (v.1 29 3)).drop (x4.toNat + 1) := by
          rw [List.drop_eq_getElem_cons hlt]
          rw [List.getElem?_eq_getElem hlt] at zat
          rw [Option.some.inj zat]
        have rlen : (((dv_wz F c L' (v.1 29 3)).drop (x4 + 1).toNat ++ ws).length : Int) = u.1 56 6 := by
          rw [List.length_append, List.length_drop, zl]
          omega
        refine w_dw_ns127 (w := w) (c_dv_mark hsL (d + 1) (by omega)) (c_dv_push56 hsL (d + 1) (by omega)) (fun _ K' hK' => ?_) i14 (by omega) (by omega) (by omega) (fun _ => dv_at_z tA) (fun _ => by omega) (fun q => absurd q (by omega)) (fun _ t u1 u2 u3 => ?_)
        · refine c_dz_arg hsL (d + 1) (by omega) _ _ F _ _ i14 (by have := dv_at_z i5; rw [e11]; exact this) (by omega) a3' (fun z' _ q' => ?_)
          rw [dv_nd1 q' hw]
          exact hK'
        · obtain ⟨s1, s2, s3, s4, s5, s6, s7, s8⟩ := u3 trivial
          have nf2 : dv_nf (u.1 11 6) S.2.2.2.2 S.2.2.2.2 u t := dv_nf_F _ u2 (by decide)
          have lk2 : ∀ i : Nat, t.2.1 30 i = u.2.1 30 i ∧ t.2.1 31 i = u.2.1 31 i ∧ t.2.1 32 i = u.2.1 32 i := fun i => by
            rw [(u2.same 30 rfl).2, (u2.same 31 rfl).2, (u2.same 32 rfl).2]
            exact ⟨rfl, rfl, rfl⟩
          have t29 : t.1 29 3 = v.1 29 3 := by rw [(u2.same 29 rfl).1, e29]
          have ix : (u.1 56 6).toNat = ((dv_wz F c L' (v.1 29 3)).drop (x4 + 1).toNat ++ ws).length := by omega
          rw [ix] at s3 s4 s5 s6 s7 s8
          have key : wd_ws t S.2.2.2.2 (t.1 29 3) (((A, c), L', v.1 29 3) :: ((dv_wz F c L' (v.1 29 3)).drop (x4 + 1).toNat ++ ws)) := by
            refine ⟨⟨by show v.1 29 3 ≤ t.1 29 3; omega, h29.1⟩, ⟨?_, ?_⟩, ⟨s7, ?_⟩, ?_⟩
            · rw [s3]
              exact dv_at_fr (Int.le_refl _) nf2 tA
            · rw [s4]
              exact dv_ch_fr (fun i _ => lk2 i) (dv_ch_fr (fun i _ => lk i) i6)
            · rw [s8]
              show u.1 29 3 = v.1 29 3
              rw [e29]
            · refine wd_ws_fr (Int.le_refl _) nf2 (fun i _ => lk2 i) (fun i hi => ?_) (by rw [e29] at i16; exact i16)
              obtain ⟨o1, o2, _, _, o5, o6⟩ := s2 i (by omega)
              exact ⟨o1, o2, o5, o6⟩
          refine ⟨x4.toNat, by omega, Or.inr (Or.inl ⟨rfl, z, cc, L', x4 - 1, j, kk, h, F, c, v, rfl, i1, ⟨i3, i3b⟩, i4, i5, i6, i7, i9, i10, i11, by omega, u1, cx_F_step u2 rfl i15, ?_, by omega, by omega⟩)⟩
          rw [show (x4 - 1 + 1).toNat = x4.toNat by omega, zdr, List.cons_append, show x4.toNat + 1 = (x4 + 1).toNat by omega]
          exact key
      · have ex : x4 = -1 := by omega
        refine w_dw_ns127 (w := 0) (c_dv_mark hsL (d + 1) (by omega)) (c_dv_push56 hsL (d + 1) (by omega)) (fun q => absurd q hx) i14 (by omega) (by omega) (by omega) (fun q => absurd q hx) (fun q => absurd q hx) (fun _ => ?_) (fun q => absurd q hx)
        rw [ex] at i16
        have i16' : wd_ws u S.2.2.2.2 (u.1 29 3) (dv_wz F c L' (v.1 29 3) ++ ws) := i16
        have hTy : ∀ A ∈ vx_el F, wd_sd S L' A c := fun A hA => wd_sd_el hk0 hk3 hA i7
        have hc1 : kk = 1 → 0 ≤ h := fun _ => q5
        have v1 := wd_K_F (cur' := []) (ws' := dv_wz F c L' (v.1 29 3) ++ ws) i1 i14 (cx_F_step i15 rfl (cx_F_refl _ _)) i16' (by rw [List.length_append, zl]; omega) (by rw [List.map_append, wd_wz_it]; exact wd_P_rig hg hk0 hk3 hc1 yP) (wd_ks_wz L'0 yks (by rw [vx_el_len]; exact q7b) (fun A hA => ⟨hTy A hA, fun i' hi' => vx_c1_el hk0 hk3 hA hi' i9⟩))
        refine hK u a _ v1 (cx_F_step i15 rfl i3) ?_ ?_
        · rw [(i15.same 55 rfl).1, i3b]
        · have e63 : u.2.1 63 = s.2.1 63 := by rw [(i15.same 63 rfl).2]; exact i4
          rw [wd_ms_e e63]
          unfold wd_ms at msk ⊢
          rw [dv_wz_hz]
          rw [vx_hz_lam hk3] at i10
          omega
    · obtain ⟨hGu, ⟨x1, x2⟩, yN, yP, yks, _⟩ := i1 trivial
      obtain ⟨z1, z2, _⟩ := hGu trivial
      obtain ⟨⟨N1, N2, N3, N5⟩, N4⟩ := z2 trivial
      have h29 := z1.fld 29 3 (by decide) rfl
      have rc := dv_ch_rng i6
      obtain ⟨b1, b2, b3, b4⟩ := vx_c1_bd hrk W g4 hbs i9
      obtain ⟨⟨in1, _⟩, ⟨L'0, hck⟩, _⟩ := i7 trivial
      obtain ⟨q1, q2, q3, q4, q5, q6, q7, q8, q9, q10⟩ := dv_at_hd i5
      obtain ⟨q7a, q7b⟩ := q7 (by decide)
      obtain ⟨q13, q14, q15⟩ := q10 rfl
      obtain ⟨m0, m1⟩ := in1.1 h (Or.inl ⟨rfl, rfl⟩)
      have hl := vx_in_len in1
      have lF : (S.2.2.2.2 j).length = rf_len F := by rw [q13, dz_hs_len]
      obtain ⟨n1, n2, n3, n4⟩ := yN trivial
      have nlen := wd_N_len (by omega) yN
      obtain ⟨a4, bm⟩ := N4 h m0 m1
      have hoc : ∀ x, wz_oc x (wd_v th S.2.2.2.2 (rf_n j 3 h F .leaf, dv_lk c, L')) ↔ wz_oc x (th h) := fun x => by
        show wz_oc x (vx_val th S.2.2.2.2 (rf_n j 3 h F .leaf) (dv_lk c) L') ↔ _
        rw [vx_call hg, wz_oc_re]
      have hmt : vx_mt h (rf_n j 3 h F .leaf) := Or.inl ⟨rfl, rfl⟩
      refine w_dw_ns165 (m := h) (b := u.2.1 34 h.toNat) (G3 := fun k' t => cx_I t ∧ cx_F [(29, 32)] (u.1, sx_ua u.2.1 63 h.toNat 0, u.2.2) t ∧ dv_lf (u.1, sx_ua u.2.1 63 h.toNat 0, u.2.2) t ∧ t.1 29 3 = u.1 29 3 + ((PR h).length : Int) ∧ dv_c t (dv_in (PR h) (dz_hs F) c) (t.1 29 3) k') (G4 := fun t => cx_I t ∧ cx_F [(64, 64)] (sx_uf u.1 55 8 (u.1 55 8 + 1), sx_ua u.2.1 63 h.toNat (u.1 55 8), u.2.2) t ∧ t.1 = sx_uf u.1 55 8 (u.1 55 8 + 1) ∧ dw_O h (rf_len F) (fun k => dv_lk c ((dz_hs F).getD k (-1))) (sx_uf u.1 55 8 (u.1 55 8 + 1), sx_ua u.2.1 63 h.toNat (u.1 55 8), u.2.2) t) (c_dz_head hsL (d + 1) (by omega)) (c_dv_body hsL (d + 1) (by omega)) (c_dv_mark hsL (d + 1) (by omega)) (c_dv_push56 hsL (d + 1) (by omega)) (fun hneg hb K' hK' => ?_) (fun k' t ht => ?_) (fun hneg hb K' hK' => ?_) z1 (dv_at_z i5) (by omega) (by omega) q4 ⟨m0, by omega, by omega⟩ rfl (by omega) (fun hge => ?_) (fun hneg hb k' t ht t' u1 u2 u3 => ?_) (fun hneg hb t ht => ?_)
      · rcases bm with ⟨_, q⟩ | ⟨B, bm1, bm2, bm3, bm4, bm5, bm6⟩
        · omega
        · have hPl : ((PR h).length : Int) ≤ (vx_aa S h : Int) := by
            have n1 : ((PR h).map Prod.snd).length ≤ (S.2.2.1 h).toNat := vx_ls_1 bm6 (fun x hx => by
              obtain ⟨q, hq1, hq2⟩ := List.mem_map.mp hx
              have := bm4 q hq1
              rw [← hq2]
              omega)
            rw [List.length_map] at n1
            unfold vx_aa
            omega
          have ha4 : vx_aa S h ≤ 4 := by unfold vx_aa; omega
          exact c_dv_ins hsL (d + 1) (by omega) z cc (u.1 29 3) h F (PR h) c (u.1, sx_ua u.2.1 63 h.toNat 0, u.2.2) K' (cx_I_ua rfl rfl z1 (by decide) (by decide)) (dv_at_z i5) ⟨q4, m0, by omega⟩ q6 bm3 (fun q hq => by have := bm4 q hq; omega) (by omega) i6 (Int.le_refl _) (by show u.1 29 3 + _ ≤ 1024; omega) (fun z t t1 t2 t3 t4 t5 => hK' z t ⟨t1, t2, t3, t4, t5⟩)
      · obtain ⟨y1, y2, y3, y4, y5⟩ := ht
        have r5 := dv_ch_rng y5
        have y6 := y1.fld 29 3 (by decide) rfl
        refine ⟨y1, by omega, ?_⟩
        rw [(y2.same 56 rfl).1]
        show u.1 56 6 < 512
        omega
      · have hx : S.2.2.2.1 h = none := by
          rcases bm with ⟨q, _⟩ | ⟨B, _, q, _⟩
          · exact q
          · have := dv_at_z q
            omega
        have hop := wd_sd_open hx hl i7
        obtain ⟨_, hinj⟩ := vx_ck_lk L'0 hck
        have hI2 : cx_I (sx_uf u.1 55 8 (u.1 55 8 + 1), sx_ua u.2.1 63 h.toNat (u.1 55 8), u.2.2) := cx_I_uf rfl rfl (cx_I_ua rfl rfl z1 (by omega) (by omega)) (by omega) (by omega)
        refine c_dw_oa hsL (d + 1) (by omega) z cc (u.1 29 3) h F c _ K' hI2 (dv_at_z i5) ⟨q4, m0, by omega⟩ q6 q7a q7b i6 (by show u.1 29 3 ≤ sx_uf u.1 55 8 (u.1 55 8 + 1) 29 3; rw [sx_uf_if, if_neg (fun cc => absurd cc.1 (by decide))]; exact Int.le_refl _) (fun p q hp hq e => ?_) (fun t t1 t2 t3 t4 => hK' t ⟨t1, t2, t3, t4⟩)
        have hp' : p < (dz_hs F).length := by rw [dz_hs_len]; exact hp
        have hq' : q < (dz_hs F).length := by rw [dz_hs_len]; exact hq
        rw [vx_gD hp', vx_gD hq'] at e
        have e2 := hinj _ _ (hop _ (by rw [q13]; exact List.getElem_mem hp')) e
        have hnd : (dz_hs F).Nodup := by rw [← q13]; exact q14
        exact wd_nd_inj hnd hp' hq' e2
      · have hdr : ∀ x, wz_oc x (wd_v th S.2.2.2.2 (rf_n j 3 h F .leaf, dv_lk c, L')) → x ∈ a.map Prod.fst := fun x hx => by
          by_cases hb : S.2.2.2.1 h = none
          · rcases (n4 h m0 m1).1 hb with ⟨c1, _⟩ | ⟨i, xs, c1, _⟩
            · omega
            · rw [hoc, ho h hb] at hx
              have hx' : wz_oc x (.inner 0 (1, -1 - h) () (vx_vs (S.2.2.1 h).toNat 0) .leaf) := hx
              rw [wz_oc_in, if_pos ⟨rfl, by show -1 - h < 0; omega⟩] at hx'
              rcases hx' with hx' | hx'
              · rw [← hx']
                exact List.mem_map.mpr ⟨_, List.mem_of_getElem? c1, rfl⟩
              · exact hx'.elim
          · exact wd_P_sn (m := h) ⟨⟨m0, m1⟩, hb, hge⟩ hmt yP x ((hoc x).mp hx)
        have v1 := wd_K_F (cur' := []) (ws' := ws) i1 z1 (cx_F_refl _ _) x1 x2 (wd_P_drop hdr yP) yks
        refine hK u a ws v1 i3 (by rw [i3b]) ?_
        rw [wd_ms_e i4]
        omega
      · rcases bm with ⟨_, q⟩ | ⟨B, bm1, bm2, bm3, bm4, bm5, bm6⟩
        · omega
        · obtain ⟨y1, y2, y3, y4, y5⟩ := ht
          have hB : vx_sg B := by
            obtain ⟨a, b, cc, dd, ee, _⟩ := bm2
            exact ⟨a, b, cc, dd, ee⟩
          have hPl : ((PR h).length : Int) ≤ (vx_aa S h : Int) := by
            have n1 : ((PR h).map Prod.snd).length ≤ (S.2.2.1 h).toNat := vx_ls_1 bm6 (fun x hx => by
              obtain ⟨q, hq1, hq2⟩ := List.mem_map.mp hx
              have := bm4 q hq1
              rw [← hq2]
              omega)
            rw [List.length_map] at n1
            unfold vx_aa
            omega
          have hF1 : cx_F [(29, 32), (56, 63)] u t' := cx_F_step u2 rfl (cx_F_step y2 rfl (cx_F_ua rfl (cx_F_refl _ _)))
          have ua : ∀ q, q ≠ 63 → sx_ua u.2.1 63 h.toNat 0 q = u.2.1 q := fun q hq => sx_ua_ne hq
          have e63 : t'.2.1 63 = fun i => if i = h.toNat then 0 else u.2.1 63 i := by
            rw [(u2.same 63 rfl).2, (y2.same 63 rfl).2]
            show sx_ua u.2.1 63 h.toNat 0 63 = _
            exact sx_ua_same _ _ _ _
          have e29 : t'.1 29 3 = t.1 29 3 := by rw [(u2.same 29 rfl).1]
          have e56 : t.1 56 6 = u.1 56 6 := by rw [(y2.same 56 rfl).1]
          have lk0 : ∀ i : Nat, t'.2.1 30 i = t.2.1 30 i ∧ t'.2.1 31 i = t.2.1 31 i ∧ t'.2.1 32 i = t.2.1 32 i := fun i => by
            rw [(u2.same 30 rfl).2, (u2.same 31 rfl).2, (u2.same 32 rfl).2]
            exact ⟨rfl, rfl, rfl⟩
          have lf : ∀ i : Nat, (i : Int) < u.1 29 3 → t'.2.1 30 i = u.2.1 30 i ∧ t'.2.1 31 i = u.2.1 31 i ∧ t'.2.1 32 i = u.2.1 32 i := fun i hi => by
            obtain ⟨p1, p2, p3⟩ := lk0 i
            obtain ⟨p4, p5, p6⟩ := (y3 trivial).2 i hi
            refine ⟨p1.trans (p4.trans ?_), p2.trans (p5.trans ?_), p3.trans (p6.trans ?_)⟩
            · exact congrFun (ua 30 (by decide)) i
            · exact congrFun (ua 31 (by decide)) i
            · exact congrFun (ua 32 (by decide)) i
          have nf : dv_nf (u.1 11 6) S.2.2.2.2 S.2.2.2.2 u t' := dv_nf_F _ hF1 (by decide)
          obtain ⟨x1', x2', x3'⟩ := dv_in_lk (c := c) (P := PR h) (hs := S.2.2.2.2 j) bm5 (fun q hq => by have := bm4 q hq; omega)
          obtain ⟨p1, p2, p3, p4, p5, p6, p7, p8⟩ := u3 trivial
          have ix : (t.1 56 6).toNat = ws.length := by omega
          rw [ix] at p3 p4 p5 p6 p7 p8
          have hc1' := vx_c1_in (u' := t.1 29 3) g4 hB bm1 (by omega) i9
          have hzB := (vx_c1_bd hrk W g4 hbs hc1').2.2.2
          have hv : wd_v th S.2.2.2.2 (B, dv_lk (dv_in (PR h) (S.2.2.2.2 j) c), L') = wd_v th S.2.2.2.2 (rf_n j 3 h F .leaf, dv_lk c, L') := (vx_call_body hS bm1 hl (fun z => by have := x3' z; omega) x1').symm
          have hNt : wd_N t' S a := fun _ => by
            refine ⟨by rw [(u2.same 55 rfl).1, (y2.same 55 rfl).1]; exact n1, n2, n3, fun x x0 x1 => ⟨fun hx => ?_, fun hx => ?_⟩⟩
            · have hxh : x ≠ h := fun e => by
                rw [e, bm1] at hx
                cases hx
              rw [e63, (u2.same 64 rfl).2, (y2.same 64 rfl).2]
              dsimp only
              rw [if_neg (by omega), ua 64 (by decide)]
              exact (n4 x x0 x1).1 hx
            · rw [e63]
              dsimp only
              by_cases q : x.toNat = h.toNat
              · rw [if_pos q]
                omega
              · rw [if_neg q]
                exact (n4 x x0 x1).2 hx
          refine hK t' a (((B, dv_in (PR h) (S.2.2.2.2 j) c), L', t.1 29 3) :: ws) (fun _ => ⟨wd_G_F hGu u1 (cx_F_step hF1 rfl (cx_F_refl _ _)), ⟨⟨⟨by show t.1 29 3 ≤ t'.1 29 3; omega, by show 0 ≤ t.1 29 3; omega⟩, ⟨?_, ?_⟩, ⟨p7, p8⟩, ?_⟩, ?_⟩, hNt, wd_P_in (m := h) (fun x hx => ?_) hv (fun x hx => (hoc x).mpr hx) hmt (fun x hx => hrk h B _ x bm1 hx) yP, ⟨⟨wd_sd_body g3 bm1 q14 i7, L'0, hc1'⟩, yks⟩, hS, ho, hrk, hbs⟩) (cx_F_step hF1 rfl i3) (by rw [(u2.same 55 rfl).1, (y2.same 55 rfl).1]; show u.1 55 11 = _; rw [i3b]) ?_
          · rw [p3]
            exact dv_at_fr (Int.le_refl _) nf bm2
          · rw [p4, q13]
            exact dv_ch_fr (fun i _ => lk0 i) y5
          · refine wd_ws_hi (by show u.1 29 3 ≤ t.1 29 3; omega) (wd_ws_fr (Int.le_refl _) nf lf (fun i hi => ?_) x1)
            obtain ⟨r1, r2, _, _, r5, r6⟩ := p2 i (by omega)
            refine ⟨r1.trans ?_, r2.trans ?_, r5.trans ?_, r6.trans ?_⟩
            · rw [(y2.same 57 rfl).2]
              exact congrFun (ua 57 (by decide)) i
            · rw [(y2.same 58 rfl).2]
              exact congrFun (ua 58 (by decide)) i
            · rw [(y2.same 61 rfl).2]
              exact congrFun (ua 61 (by decide)) i
            · rw [(y2.same 62 rfl).2]
              exact congrFun (ua 62 (by decide)) i
          · rw [List.length_cons]
            omega
          · obtain ⟨h1, h2, h3⟩ := hx
            rw [e63] at h3
            dsimp only at h3
            by_cases q : x = h
            · exact Or.inr q
            · rw [if_neg (by omega)] at h3
              exact Or.inl ⟨h1, h2, h3⟩
          · have f1 : t'.2.1 63 h.toNat = 0 := by
              rw [e63]
              exact if_pos rfl
            have f2 : ∀ i : Nat, (i : Int) ≠ h → t'.2.1 63 (i : Int).toNat = s.2.1 63 (i : Int).toNat := fun i hx => by
              rw [e63, ← i4]
              exact if_neg (by omega)
            have up := vx_sm_up (f := fun x => if t'.2.1 63 x.toNat < 0 then 1 else 0) (g := fun x => if s.2.1 63 x.toNat < 0 then 1 else 0) (x := h) (n := 32) m0 (by omega) (fun i hi hx => by
              show (if t'.2.1 63 (i : Int).toNat < 0 then 1 else 0) = (if s.2.1 63 (i : Int).toNat < 0 then 1 else 0)
              rw [f2 i hx])
            have w1 : (if t'.2.1 63 h.toNat < 0 then 1 else 0 : Nat) = 0 := if_neg (by rw [f1]; decide)
            have w2 : (if s.2.1 63 h.toNat < 0 then 1 else 0 : Nat) = 1 := if_pos (by rw [← i4]; exact hneg)
            try dsimp only at up
            rw [w1, w2] at up
            have z1 : dv_hz (((B, dv_in (PR h) (S.2.2.2.2 j) c), L', t.1 29 3) :: ws) = vx_hz B + dv_hz ws := rfl
            unfold wd_ms wd_cs at msk ⊢
            rw [z1]
            omega
      · have hx : S.2.2.2.1 h = none := by
          rcases bm with ⟨q, _⟩ | ⟨B, _, q, _⟩
          · exact q
          · have := dv_at_z q
            omega
        obtain ⟨y1, y2, y3, y4⟩ := ht
        have hop := wd_sd_open hx hl i7
        obtain ⟨_, hinj⟩ := vx_ck_lk L'0 hck
        obtain ⟨Fv, eV, eF⟩ := wd_open (F := F) (e := dv_lk c) (L := L') hS (ho h hx) hl
        have hxl : ((S.2.2.2.2 j).map (dv_lk c)).length = rf_len F := by rw [List.length_map, lF]
        have hxg : ∀ p, p < rf_len F → ((S.2.2.2.2 j).map (dv_lk c)).getD p (-1) = dv_lk c ((dz_hs F).getD p (-1)) := fun p hp => by
          rw [vx_getD_map (dv_lk c) _ _ (by omega), q13]
        have hF1 : cx_F [(55, 55), (63, 64)] u t := cx_F_step y2 rfl (cx_F_uf rfl (cx_F_ua rfl (cx_F_refl _ _)))
        have e63 : ∀ i : Nat, t.2.1 63 i = if i = h.toNat then u.1 55 8 else u.2.1 63 i := fun i => by
          rw [(y2.same 63 rfl).2]
          show sx_ua u.2.1 63 h.toNat (u.1 55 8) 63 i = _
          rw [sx_ua_same]
        have e8 : t.1 55 8 = u.1 55 8 + 1 := by
          rw [y3, sx_uf_if, if_pos ⟨rfl, rfl⟩]
        have hOt : dw_O h ((S.2.2.2.2 j).map (dv_lk c)).length (fun i => ((S.2.2.2.2 j).map (dv_lk c)).getD i (-1)) u t := fun _ => by
          obtain ⟨o1, o2⟩ := y4 trivial
          refine ⟨fun k hk => ?_, fun i hi => ?_⟩
          · rw [hxl] at hk ⊢
            rw [we_rnk_cg hxg hk]
            exact o1 k hk
          · rw [o2 i hi]
            show sx_ua u.2.1 63 h.toNat (u.1 55 8) 64 i = _
            rw [sx_ua_ne (by decide)]
        obtain ⟨hno, hNt⟩ := wd_N_add (t := t) yN m0 m1 hx hneg (by omega) (fun x x0 x1 => (M4 x x0 x1).1) (fun p q hp hq e => by
          rw [hxl] at hp hq
          rw [hxg p hp, hxg q hq] at e
          have hp' : p < (dz_hs F).length := by rw [dz_hs_len]; exact hp
          have hq' : q < (dz_hs F).length := by rw [dz_hs_len]; exact hq
          rw [vx_gD hp', vx_gD hq'] at e
          have e2 := hinj _ _ (hop _ (by rw [q13]; exact List.getElem_mem hp')) e
          have hnd : (dz_hs F).Nodup := by rw [← q13]; exact q14
          exact wd_nd_inj hnd hp' hq' e2) e8 e63 hOt
        have hPt := wd_P_op eV (by omega) yP
        rw [eF] at hPt
        have ead : wz_ad a (-1 - h) ((S.2.2.2.2 j).map (dv_lk c)) = a ++ [(-1 - h, (S.2.2.2.2 j).map (dv_lk c))] := if_neg hno
        rw [ead] at hPt
        have esn : wd_sn t S = wd_sn u S := by
          funext x
          unfold wd_sn
          rw [e63]
          by_cases q : x = h
          · rw [q]
            exact propext ⟨fun hh => absurd hx hh.2.1, fun hh => absurd hx hh.2.1⟩
          · refine propext ⟨fun hh => ⟨hh.1, hh.2.1, ?_⟩, fun hh => ⟨hh.1, hh.2.1, ?_⟩⟩
            · have h3 := hh.2.2
              rw [if_neg (by have := hh.1; omega)] at h3
              exact h3
            · rw [if_neg (by have := hh.1; omega)]
              exact hh.2.2
        have nf : dv_nf (u.1 11 6) S.2.2.2.2 S.2.2.2.2 u t := dv_nf_F _ hF1 (by decide)
        refine hK t _ ws (fun _ => ⟨wd_G_F hGu y1 (cx_F_step hF1 rfl (cx_F_refl _ _)), ⟨?_, ?_⟩, hNt, by rw [esn]; exact hPt, yks, hS, ho, hrk, hbs⟩) (cx_F_step hF1 rfl i3) ?_ ?_
        · rw [(hF1.same 29 rfl).1]
          refine wd_ws_fr (Int.le_refl _) nf (fun i _ => ?_) (fun i _ => ?_) x1
          · rw [(hF1.same 30 rfl).2, (hF1.same 31 rfl).2, (hF1.same 32 rfl).2]
            exact ⟨rfl, rfl, rfl⟩
          · rw [(hF1.same 57 rfl).2, (hF1.same 58 rfl).2, (hF1.same 61 rfl).2, (hF1.same 62 rfl).2]
            exact ⟨rfl, rfl, rfl, rfl⟩
        · rw [(hF1.same 56 rfl).1]
          exact x2
        · rw [y3, sx_uf_if, if_neg (fun cc => absurd cc.2 (by decide)), i3b]
        · have f1 : t.2.1 63 h.toNat = u.1 55 8 := by
            rw [e63, if_pos rfl]
          have f2 : ∀ i : Nat, (i : Int) ≠ h → t.2.1 63 (i : Int).toNat = s.2.1 63 (i : Int).toNat := fun i hx => by
            rw [e63, ← i4]
            exact if_neg (by omega)
          have up := vx_sm_up (f := fun x => if t.2.1 63 x.toNat < 0 then 1 else 0) (g := fun x => if s.2.1 63 x.toNat < 0 then 1 else 0) (x := h) (n := 32) m0 (by omega) (fun i hi hx => by
            show (if t.2.1 63 (i : Int).toNat < 0 then 1 else 0) = (if s.2.1 63 (i : Int).toNat < 0 then 1 else 0)
            rw [f2 i hx])
          have w1 : (if t.2.1 63 h.toNat < 0 then 1 else 0 : Nat) = 0 := if_neg (by rw [f1]; omega)
          have w2 : (if s.2.1 63 h.toNat < 0 then 1 else 0 : Nat) = 1 := if_pos (by rw [← i4]; exact hneg)
          try dsimp only at up
          rw [w1, w2] at up
          unfold wd_ms wd_cs at msk ⊢
          omega
