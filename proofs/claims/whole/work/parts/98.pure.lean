theorem pure_law : PureLaw := pure_of flaw
