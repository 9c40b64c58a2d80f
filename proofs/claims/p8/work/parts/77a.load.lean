/-! ===== the reference: what load leaves, with the values of all sides ===== -/
/-- the equations with what is declared ahead of them; all unknowns -/
def vk_eq : List ((Int × Int × qx_T) × (px_N × px_N)) → List (Int × qx_T) → List (Int × qx_T) → List ((List (Int × qx_T) × List (Int × qx_T)) × (px_N × px_N))
  | [], _, _ => []
  | q :: r, C, M => if q.1.1 = 3 then vk_eq r (C ++ [q.1.2]) M else if q.1.1 = 4 then vk_eq r C (M ++ [q.1.2]) else ((C, M), q.2) :: vk_eq r C M
def vk_mf : List ((Int × Int × qx_T) × (px_N × px_N)) → List (Int × qx_T) → List (Int × qx_T)
  | [], M => M
  | q :: r, M => if q.1.1 = 4 then vk_mf r (M ++ [q.1.2]) else vk_mf r M
/-- what load leaves -/
def vk_LD (b : Nat → Int) (n : Int) (l : List ((Int × Int × qx_T) × (px_N × px_N))) (s : sx_S) : Prop := True → px_TX (px_K b n) l 0 ∧ (∃ m, px_DL 97 123 45 m s (vk_mf l [])) ∧ s.1 66 47 = ((vk_eq l [] []).length : Int) ∧ ∀ (k : Nat) p, (vk_eq l [] [])[k]? = some p → vk_sd (px_SN b n) p.1.1 p.1.2 p.2.1 s (s.2.1 98 k) ∧ vk_sd (px_SN b n) p.1.1 p.1.2 p.2.2 s (s.2.1 99 k)
theorem vk_LD_cg {b c : Nat → Int} {n : Int} {l : List ((Int × Int × qx_T) × (px_N × px_N))} {s : sx_S} (h : ∀ k : Nat, (k : Int) < n → b k = c k) (hn : 0 ≤ n) (g : vk_LD b n l s) : vk_LD c n l s := by
  have e1 := px_K_cg h
  have e2 : px_SN b n = px_SN c n := by
    funext i j
    exact propext (px_sn_cg h i.toNat j.toNat hn)
  unfold vk_LD at g ⊢
  rw [← e1, ← e2]
  exact g
