/** A call with its arguments, those it does not use being 0; it can be made on a WordShelf or on the Model. */
final class Op {
    final String name;
    final int i;
    final int j;
    final long a;
    final long b;
    final boolean flag;

    Op(String name, int i, int j, long a, long b, boolean flag) {
        this.name = name;
        this.i = i;
        this.j = j;
        this.a = a;
        this.b = b;
        this.flag = flag;
    }

    static Op of(String name) {
        return new Op(name, 0, 0, 0, 0, false);
    }

    static Op ofInts(String name, int i, int j) {
        return new Op(name, i, j, 0, 0, false);
    }

    static Op ofLongs(String name, long a, long b) {
        return new Op(name, 0, 0, a, b, false);
    }

    /** What the shelf answers, or the name of what it throws. */
    String madeOn(WordShelf x) {
        try {
            return String.valueOf(answer(x));
        } catch (RuntimeException e) {
            return e.getClass().getName();
        }
    }

    String madeOn(Model m) {
        try {
            return String.valueOf(m.answer(this));
        } catch (RuntimeException e) {
            return e.getClass().getName();
        }
    }

    @Override
    public String toString() {
        return name + "(i=" + i + ", j=" + j + ", a=" + a + ", b=" + b + ", flag=" + flag + ")";
    }

    private long answer(WordShelf x) {
        switch (name) {
            case "begin": x.begin(); return 0;
            case "commit": return x.commit();
            case "abort": x.abort(); return 0;
            case "add": return x.add(i, a);
            case "push": return x.push(a);
            case "pop": return x.pop();
            case "put": return x.put(a, b);
            case "cut": return x.cut(a) ? 1 : 0;
            case "next": return x.next(a, flag);
            case "counter": return x.counter(i);
            case "queued": return x.queued(i);
            case "freeze": x.freeze(i); return 0;
            case "frozen": return x.frozen(i, flag, a);
            case "crash": x.crash(j); return 0;
            case "stop": return x.stop(i, j) ? 1 : 0;
            case "recover": return x.recover();
            case "word": return x.word(i, flag);
            case "loose": return x.loose(i);
            case "look": return x.look(i);
            case "audit": return x.audit();
            default: throw new AssertionError(name);
        }
    }
}
