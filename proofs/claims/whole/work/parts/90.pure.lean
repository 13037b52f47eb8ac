def Inv (_ : Nat) (_ _ : St) : Prop := True
theorem pure_ok : PureOK Inv := sorry
