/-! set aside: wip/p6/later -/
