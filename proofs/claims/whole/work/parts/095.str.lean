section STR
variable {ρ : Type} {E : k_EV} {em : ρ → Option Value} {pc : Nat} {lv : List (Nat × Value)} {st : List Value} {σ : k_Mem} {X A : Option (ρ × k_Mem)}
theorem r_slen {i : Nat} (hi : i < 10) (hr : (st.map fun v => v.category).sum ≤ 8) (q : Nat) (hq : pc + 3 = q) (d : decode m_X4_spells.2.1 pc = .ok (.invokevirtual 38, 3)) (k : k_GO m_X4_spells E em q lv (.int (nI (k_slen.getD i 0)) :: st) σ X) : k_GO m_X4_spells E em pc lv (k_rs E i :: st) σ X := sorry
theorem r_schar {i : Nat} {x : Int32} (hi : i < 10) (hr : (st.map fun v => v.category).sum ≤ 8) (q : Nat) (hq : pc + 3 = q) (d : decode m_X4_spells.2.1 pc = .ok (.invokevirtual 44, 3)) (k : k_GO m_X4_spells E em q lv (.int ((k_sbyt.getD i []).getD (k_n x) 0) :: st) σ A) : k_GO m_X4_spells E em pc lv (.int x :: k_rs E i :: st) σ (if k_in x (k_slen.getD i 0) then A else none) := sorry
end STR
