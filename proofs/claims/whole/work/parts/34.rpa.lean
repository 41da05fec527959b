-- all levels
section
variable {n d : Nat} {b N : Nat → Int}
theorem r_ps (hn : n ≤ 160) (hb : ∀ i, i < n → 0 ≤ b i ∧ b i ≤ 255) : ∀ f : Nat, PSH b n d N f
  | 0 => fun lvl o q σ h1 h2 h3 _ _ => by omega
  | f + 1 => fun lvl o q σ h1 h2 h3 h4 h5 => by
    have ih := r_ps hn hb f
    rw [show d + (f + 1) + 4 = d + f + 4 + 1 by omega]
    rcases (by omega : lvl = 0 ∨ lvl = 1 ∨ lvl = 2 ∨ lvl = 3 ∨ lvl = 4 ∨ lvl = 5) with rfl | rfl | rfl | rfl | rfl | rfl
    · exact r_lv0 hn hb f o q σ ih h2 h3 h4 h5
    · exact r_lv1 hn hb f o q σ ih h2 h3 h4 h5
    · exact r_lv2 hn hb f o q σ ih h2 h3 h4 h5
    · exact r_lv3 hn hb f o q σ ih h2 h3 h4 h5
    · exact r_lv4 hn hb f o q σ ih h2 h3 h4 h5
    · exact r_lv5 hn hb f o q σ ih h2 h3 h4 h5
end
