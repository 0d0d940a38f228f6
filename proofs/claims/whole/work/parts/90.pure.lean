theorem pure_ok : PureOK := sorry
