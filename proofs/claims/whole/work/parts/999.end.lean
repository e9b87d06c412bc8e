theorem zz_end : True := by
  have h1 := @op_letters
  have h2 := @op_voter
  have h3 := @op_person
  trivial
theorem zz_bad : (0 : Nat) = 1 := by decide
