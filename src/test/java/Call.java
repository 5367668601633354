import java.util.List;

/** One of the methods, to be called with any arguments; it looks at the first of them, as many as it has. */
record Call(String name, int arguments, Answer answer) {
    interface Answer {
        int of(ClothDraft x, int a, int b);
    }

    static final List<Call> ALL = List.of(
            new Call("thread", 2, ClothDraft::thread),
            new Call("treadle", 2, ClothDraft::treadle),
            new Call("tie", 2, ClothDraft::tie),
            new Call("threadAll", 2, ClothDraft::threadAll),
            new Call("treadleAll", 2, ClothDraft::treadleAll),
            new Call("invert", 0, (x, a, b) -> x.invert()),
            new Call("above", 2, ClothDraft::above),
            new Call("longest", 1, (x, a, b) -> x.longest(a)),
            new Call("over", 1, (x, a, b) -> x.over(a)),
            new Call("shafts", 0, (x, a, b) -> x.shafts()),
            new Call("treadles", 0, (x, a, b) -> x.treadles()),
            new Call("liftable", 1, (x, a, b) -> x.liftable(a)),
            new Call("hangs", 0, (x, a, b) -> x.hangs()),
            new Call("layers", 0, (x, a, b) -> x.layers()),
            new Call("together", 2, ClothDraft::together),
            new Call("lifts", 0, (x, a, b) -> x.lifts()),
            new Call("divisions", 0, (x, a, b) -> x.divisions()));

    static Call named(String name) {
        return ALL.stream().filter(call -> call.name.equals(name)).findFirst().orElseThrow();
    }

    int on(ClothDraft x, int a, int b) {
        return answer.of(x, a, b);
    }

    String with(int a, int b) {
        return switch (arguments) {
            case 0 -> name + "()";
            case 1 -> name + "(" + a + ")";
            default -> name + "(" + a + ", " + b + ")";
        };
    }
}
