/** The kinds of rights as Java's own classes, so that Java itself finds the bodies. */
final class PlainRights {
    static final Class<?>[] KINDS = {Right.class, Use.class, Rail.class, Post.class, Customs.class, Quota.class,
        Ruling.class, Appeal.class};

    static class Right {
        final int i, d, n;

        Right(int i, int d, int n) {
            this.i = i;
            this.d = d;
            this.n = n;
        }

        int binds(int x) { return x + n; }
        int gives(int x) { return binds(x) - d; }
        int hangs(int x) { return gives(x) * 2; }
    }

    static class Use extends Right {
        Use(int i, int d, int n) { super(i, d, n); }
        @Override int gives(int x) { return super.gives(x) ^ i; }
    }

    static class Rail extends Use {
        Rail(int i, int d, int n) { super(i, d, n); }
        @Override int binds(int x) { return super.binds(x) * 3; }
    }

    static class Post extends Use {
        Post(int i, int d, int n) { super(i, d, n); }
        @Override int hangs(int x) { return super.hangs(x) + gives(1); }
    }

    static class Customs extends Right {
        Customs(int i, int d, int n) { super(i, d, n); }
        @Override int binds(int x) { return super.binds(x + 5); }
    }

    static class Quota extends Customs {
        Quota(int i, int d, int n) { super(i, d, n); }
        @Override int gives(int x) { return -super.gives(x); }
    }

    static class Ruling extends Right {
        int spot, matter, day;
        boolean let;

        Ruling(int i, int d, int n) { super(i, d, n); }
        @Override int hangs(int x) { return binds(x) - super.hangs(x); }
    }

    static class Appeal extends Ruling {
        Ruling of;
        int share;

        Appeal(int i, int d, int n) { super(i, d, n); }
        @Override int binds(int x) { return super.binds(x) ^ 9; }
        @Override int hangs(int x) { return super.hangs(x - 1); }
    }

    private PlainRights() {
    }
}
