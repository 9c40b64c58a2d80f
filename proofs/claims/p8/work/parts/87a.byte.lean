/-! ===== the reference puts bytes, exactly ===== -/
/-- powers of ten; a digit; the digits from 10 ^ j down; how many -/
def wb_p : Nat → Int
  | 0 => 1
  | j + 1 => wb_p j * 10
def wb_d (v t : Int) : Int := 48 + (v.tdiv t - (v.tdiv t).tdiv 10 * 10)
def wb_ds (v : Int) : Nat → List Int
  | 0 => [wb_d v 1]
  | j + 1 => wb_d v (wb_p (j + 1)) :: wb_ds v j
def wb_kf (v : Int) : Nat → Nat → Nat
  | 0, j => j
  | f + 1, j => if v.tdiv (wb_p j) ≤ 9 then j else wb_kf v f (j + 1)
def wb_dg (v : Int) : List Int := wb_ds v (wb_kf v 9 0)
theorem wb_p1 : ∀ j, 1 ≤ wb_p j
  | 0 => Int.le_refl _
  | j + 1 => by
    have := wb_p1 j
    show 1 ≤ wb_p j * 10
    omega
theorem wb_p9 : ∀ {j : Nat}, j ≤ 9 → wb_p j ≤ 1000000000 := by
  decide
theorem wb_ds_c {v : Int} (j : Nat) : ∃ l, wb_ds v j = wb_d v (wb_p j) :: l ∧ ((j = 0 ∧ l = []) ∨ ∃ i, j = i + 1 ∧ l = wb_ds v i) := by
  cases j with
  | zero => exact ⟨[], rfl, Or.inl ⟨rfl, rfl⟩⟩
  | succ i => exact ⟨wb_ds v i, rfl, Or.inr ⟨i, rfl, rfl⟩⟩
theorem wb_p_d (j : Nat) : (wb_p (j + 1)).tdiv 10 = wb_p j := by
  have h1 := wb_p1 j
  have h2 : wb_p (j + 1) = wb_p j * 10 := rfl
  rw [rf_d10 (by omega), h2]
  omega
section
variable {Ω : Type}
theorem we_PT_0 {E : we_E Ω} {s : sx_S} (hI : cx_I s) : we_PT E s s [] := ⟨hI, cx_F_refl _ _, rf_f_refl _ _, fun _ h => h⟩
theorem we_PT_t {E : we_E Ω} {s u t : sx_S} {l l' : List Int} (h1 : we_PT E s u l) (h2 : we_PT E u t l') : we_PT E s t (l ++ l') := ⟨h2.1, cx_F_step h2.2.1 rfl h1.2.1, rf_f_step h2.2.2.1 rfl h1.2.2.1, fun o ho => by
  rw [List.foldl_append]
  exact h2.2.2.2 _ (h1.2.2.2 o ho)⟩
theorem w_b_putN {CALL : sx_Ca} {sL : Nat} {sx : Nat → Int32} {Q : Nat → sx_L → sx_S → Prop} {R : Int → sx_S → Prop} {s : sx_S} {a0 a1 : Int} {PW : sx_S → Prop} (hP : ∀ K : Int → sx_S → Prop, (∀ z t, PW t → K z t) → CALL 203 [.inr (.inl 66), .inl a0] s K) (p0 : -2147483648 ≤ a0 ∧ a0 ≤ 2147483647) (p1 : -2147483648 ≤ a1 ∧ a1 ≤ 2147483647) (hQ : ∀ t, PW t → Q 7 [(0, .inr (.inl 66)), (2, .inl a1), (3, .inl 1)] t) : sx_wp false sL sx eX12_putNumber CALL [(7, [0, 2, 3]), (26, [0, 2, 4])] Q R 400 0 (sx_argsF 0 [.inr (.inl 66), .inl a0, .inl a1]) [] s := by
  repeat' (first | (with_reducible intro _) | (refine And.intro ?_ ?_) | (refine hP _ (fun zzz zzt zzp => ?_)) | (fail))
  all_goals (try dsimp only at *)
  all_goals (first | trivial | assumption | omega | (exact hQ _ zzp) | skip)
theorem w_b_putN7 {CALL : sx_Ca} {sL : Nat} {sx : Nat → Int32} {Q : Nat → sx_L → sx_S → Prop} {R : Int → sx_S → Prop} {s : sx_S} {a1 y : Int} (p1 : -2147483648 ≤ a1 ∧ a1 ≤ 2147483647) (hy : 1 ≤ y ∧ y ≤ 2147483647) (hQ7 : 9 < a1.tdiv y → Q 7 [(0, .inr (.inl 66)), (2, .inl a1), (3, .inl (y * 10))] s) (hQ26 : a1.tdiv y ≤ 9 → Q 26 [(0, .inr (.inl 66)), (2, .inl a1), (4, .inl y)] s) : sx_wp false sL sx eX12_putNumber CALL [(7, [0, 2, 3]), (26, [0, 2, 4])] Q R 400 7 [(0, .inr (.inl 66)), (2, .inl a1), (3, .inl y)] [] s := by
  have hd := rf_dvin p1 hy.1
  have hb : 9 < a1.tdiv y → y * 10 ≤ a1 := rf_dv hy.1
  repeat' (first | (with_reducible intro _) | (refine And.intro ?_ ?_))
  all_goals (try dsimp only at *)
  all_goals (first | trivial | assumption | omega | (simp only [sx_w_f] at *; omega) | (exact hQ7 (by omega)) | (exact hQ26 (by omega)) | (exact hQ7 (by simp only [sx_w_f] at *; omega)) | (exact hQ26 (by simp only [sx_w_f] at *; omega)) | skip)
theorem w_b_putN26 {CALL : sx_Ca} {sL : Nat} {sx : Nat → Int32} {Q : Nat → sx_L → sx_S → Prop} {R : Int → sx_S → Prop} {s : sx_S} {a1 y : Int} {PW : sx_S → Prop} (p1 : -2147483648 ≤ a1 ∧ a1 ≤ 2147483647) (hy : 0 ≤ y ∧ y ≤ 2147483647) (hK : y = 0 → R 0 s) (hP : 0 < y → ∀ K : Int → sx_S → Prop, (∀ z t, PW t → K z t) → CALL 203 [.inr (.inl 66), .inl (wb_d a1 y)] s K) (hQ : 0 < y → ∀ t, PW t → Q 26 [(0, .inr (.inl 66)), (2, .inl a1), (4, .inl (y.tdiv 10))] t) : sx_wp false sL sx eX12_putNumber CALL [(7, [0, 2, 3]), (26, [0, 2, 4])] Q R 400 26 [(0, .inr (.inl 66)), (2, .inl a1), (4, .inl y)] [] s := by
  have hd := fun h => rf_dvin (t := y) p1 h
  have hr := rf_rm (a1.tdiv y)
  have h10 := rf_d10 hy.1
  have hr2 := fun h : 1 ≤ y => rf_dvin (t := 10) (rf_dvin (t := y) p1 h) (by decide)
  have hdd : wb_d a1 y = 48 + (a1.tdiv y - (a1.tdiv y).tdiv 10 * 10) := rfl
  rw [hdd] at hP
  repeat' (first | (with_reducible intro _) | (refine And.intro ?_ ?_) | (refine hP (by omega) _ (fun zzz zzt zzp => ?_)) | (fail))
  all_goals (try dsimp only at *)
  all_goals (first | trivial | assumption | omega | (simp only [sx_w_f] at *; omega) | (exact hK (by omega)) | (exact hQ (by omega) _ zzp) | (have zz1 := hd (by omega); have zz2 := hr2 (by omega); simp only [sx_w_f] at *; omega) | skip)
theorem c_b_putN {E : we_E Ω} (hdg : E.1.2.1 = wb_dg) {sL : Nat} {sx : Nat → Int32} (hsL : sL ≤ 3072) (hP : ∀ d : Nat, 2 ≤ d → ∀ (a0 : Int) (s : sx_S) (K : Int → sx_S → Prop), cx_I s → (-2147483648 ≤ a0 ∧ a0 ≤ 2147483647) → (∀ z t, we_PT E s t [a0] → K z t) → sx_C sL sx d 203 [.inr (.inl 66), .inl a0] s K) (d : Nat) (hd : 3 ≤ d) : ∀ (a0 a1 : Int) (s : sx_S) (K : Int → sx_S → Prop), cx_I s → (0 ≤ a0 ∧ a0 ≤ 255) → (-2147483648 ≤ a1 ∧ a1 ≤ 2147483647) → (∀ z t, we_PT E s t (a0 :: E.1.2.1 a1) → K z t) → sx_C sL sx d 204 [.inr (.inl 66), .inl a0, .inl a1] s K := by
  intro a0 a1 s K hI p0 p1 hK
  rw [hdg] at hK
  obtain ⟨d, rfl⟩ : ∃ e, d = e + 2 := ⟨d - 2, by omega⟩
  refine sx_methL (wr := false) (n := 400) (n' := 400) (stop := [(7, [0, 2, 3]), (26, [0, 2, 4])]) (fun n pc ls u => (pc = 7 ∧ ∃ j : Nat, ls = [(0, .inr (.inl 66)), (2, .inl a1), (3, .inl (wb_p j))] ∧ j ≤ 9 ∧ wb_kf a1 (9 - j) j = wb_kf a1 9 0 ∧ we_PT E s u [a0] ∧ n = 100 - j) ∨ (pc = 26 ∧ ∃ (y : Int) (l l' : List Int), ls = [(0, .inr (.inl 66)), (2, .inl a1), (4, .inl y)] ∧ we_PT E s u (a0 :: l) ∧ l ++ l' = wb_dg a1 ∧ ((y = 0 ∧ l' = [] ∧ n = 0) ∨ ∃ j : Nat, j ≤ 9 ∧ y = wb_p j ∧ l' = wb_ds a1 j ∧ n = j + 1))) hsL (e := eX12_putNumber) rfl ?_ ?_
  · refine w_b_putN (PW := fun t => we_PT E s t [a0]) (fun K' hK' => hP (d + 1) (by omega) a0 s K' hI (by omega) hK') (by omega) p1 (fun t ht => ⟨_, Or.inl ⟨rfl, 0, rfl, by omega, rfl, ht, rfl⟩⟩)
  · rintro n pc ls u (⟨rfl, j, rfl, j9, hk, hu, rfl⟩ | ⟨rfl, y, l, l', rfl, hu, hl, hc⟩)
    · have h1 := wb_p1 j
      have h9 := wb_p9 j9
      have hb : 9 < a1.tdiv (wb_p j) → wb_p j * 10 ≤ a1 := rf_dv h1
      refine w_b_putN7 p1 ⟨h1, by omega⟩ (fun q => ?_) (fun q => ?_)
      · have hj : j ≠ 9 := fun e => by
          have h10 := hb q
          have e9 : wb_p 9 = 1000000000 := by decide
          rw [e, e9] at h10
          omega
        refine ⟨100 - (j + 1), by omega, Or.inl ⟨rfl, j + 1, rfl, by omega, ?_, hu, rfl⟩⟩
        rw [← hk, show 9 - j = (9 - (j + 1)) + 1 by omega]
        show _ = if a1.tdiv (wb_p j) ≤ 9 then j else wb_kf a1 (9 - (j + 1)) (j + 1)
        rw [if_neg (by omega)]
      · have ek : wb_kf a1 9 0 = j := by
          rw [← hk]
          by_cases c : j = 9
          · rw [c]
            rfl
          · rw [show 9 - j = (9 - (j + 1)) + 1 by omega]
            show (if a1.tdiv (wb_p j) ≤ 9 then j else wb_kf a1 (9 - (j + 1)) (j + 1)) = j
            rw [if_pos q]
        refine ⟨j + 1, by omega, Or.inr ⟨rfl, wb_p j, [], wb_ds a1 j, rfl, hu, ?_, Or.inr ⟨j, j9, rfl, rfl, rfl⟩⟩⟩
        show wb_ds a1 j = wb_ds a1 (wb_kf a1 9 0)
        rw [ek]
    · rcases hc with ⟨y0, el, rfl⟩ | ⟨j, j9, ey, el, rfl⟩
      · refine w_b_putN26 (PW := fun _ => False) p1 (by omega) (fun _ => hK 0 u ?_) (fun q => absurd q (by omega)) (fun q => absurd q (by omega))
        rw [el, List.append_nil] at hl
        rw [← hl]
        exact hu
      · have h1 := wb_p1 j
        have h9 := wb_p9 j9
        obtain ⟨l2, e1, e2⟩ := wb_ds_c (v := a1) j
        have hr := rf_rm (a1.tdiv y)
        refine w_b_putN26 (PW := fun t => we_PT E u t [wb_d a1 y]) p1 (by omega) (fun q => absurd q (by omega)) (fun _ K' hK' => hP (d + 1) (by omega) _ u K' hu.1 (by unfold wb_d; omega) hK') (fun _ t ht => ?_)
        have hl2 : (l ++ [wb_d a1 y]) ++ l2 = wb_dg a1 := by
          rw [← hl, el, e1, ey, List.append_assoc]
          rfl
        have hpt : we_PT E s t (a0 :: (l ++ [wb_d a1 y])) := we_PT_t hu ht
        rcases e2 with ⟨j0, rfl⟩ | ⟨i, ji, rfl⟩
        · refine ⟨0, by omega, Or.inr ⟨rfl, y.tdiv 10, l ++ [wb_d a1 y], [], rfl, hpt, hl2, Or.inl ⟨?_, rfl, rfl⟩⟩⟩
          rw [ey, j0]
          decide
        · refine ⟨i + 1, by omega, Or.inr ⟨rfl, y.tdiv 10, l ++ [wb_d a1 y], wb_ds a1 i, rfl, hpt, hl2, Or.inr ⟨i, by omega, ?_, rfl, rfl⟩⟩⟩
          rw [ey, ji]
          exact wb_p_d i
end
