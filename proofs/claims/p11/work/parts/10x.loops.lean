/-! ===== contracts and loops over integers ===== -/
def sx_C (sL : Nat) (sx : Nat → Int32) (d : Nat) : sx_Ca := fun a av s K => sx_E sL sx d a 0 (sx_argsF 0 av) [] s K
section SXX
variable {wr : Bool} {sL : Nat} {sx : Nat → Int32} {d mi : Nat} {e : mx_En} {R : Int → sx_S → Prop}
/-- a method that stops nowhere -/
theorem sx_meth {n : Nat} {av : List sx_V} {s : sx_S} (hsL : sL ≤ 3072) (he : mx_pg[mi]? = some e) (h : sx_wp wr sL sx e (sx_C sL sx (d + 1)) [] (fun _ _ _ => False) R n 0 (sx_argsF 0 av) [] s) : sx_C sL sx (d + 2) mi av s R :=
  sx_sound hsL he (fun _ _ _ _ q => q) (fun _ _ _ q => q.elim) n 0 _ [] s h
/-- places where it stops, with what holds there, and a number that falls -/
theorem sx_loops {n : Nat} {stop : sx_Sp} (I : Nat → Nat → sx_L → sx_S → Prop) (hsL : sL ≤ 3072) (he : mx_pg[mi]? = some e) (h : ∀ m pc ls s, I m pc ls s → sx_wp wr sL sx e (sx_C sL sx (d + 1)) stop (fun pc' ls' s' => ∃ m', m' < m ∧ I m' pc' ls' s') R n pc ls [] s) : ∀ m pc ls s, I m pc ls s → sx_E sL sx (d + 2) mi pc ls [] s R := by
  intro m
  induction m using Nat.strongRecOn with
  | _ m ih =>
    intro pc ls s hI
    refine sx_sound hsL he (fun _ _ _ _ q => q) (fun pc' ls' s' q => ?_) n pc ls [] s (h m pc ls s hI)
    obtain ⟨m', h1, h2⟩ := q
    exact ih m' h1 pc' ls' s' h2
/-- a method with such places -/
theorem sx_methL {n n' : Nat} {stop : sx_Sp} {av : List sx_V} {s : sx_S} (I : Nat → Nat → sx_L → sx_S → Prop) (hsL : sL ≤ 3072) (he : mx_pg[mi]? = some e) (h0 : sx_wp wr sL sx e (sx_C sL sx (d + 1)) stop (fun pc' ls' s' => ∃ m', I m' pc' ls' s') R n' 0 (sx_argsF 0 av) [] s) (h : ∀ m pc ls s, I m pc ls s → sx_wp wr sL sx e (sx_C sL sx (d + 1)) stop (fun pc' ls' s' => ∃ m', m' < m ∧ I m' pc' ls' s') R n pc ls [] s) : sx_C sL sx (d + 2) mi av s R :=
  sx_sound hsL he (fun _ _ _ _ q => q) (fun pc' ls' s' q => sx_loops I hsL he h q.choose pc' ls' s' q.choose_spec) n' 0 _ [] s h0
end SXX
