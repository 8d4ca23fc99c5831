/** Makes each call on the program and on the model, and compares what they answer. */
final class Pair {
    private final String name;
    private final ReshapeArray array = new ReshapeArray();
    private final FlatModel model = new FlatModel();

    Pair(String name) {
        this.name = name;
    }

    private void same(String call, int got, int want) {
        Due.due(name + ": " + call, got, want);
    }

    void read(int b) {
        same("read(" + b + ")", array.read(b), model.read(b));
    }

    void sum() {
        same("sum()", array.sum(), model.sum());
    }

    void write(int b, int value) {
        same("write(" + b + ", " + value + ")", array.write(b, value), model.write(b, value));
    }

    void fill(int b, int count, int value, int step) {
        same("fill(" + b + ", " + count + ", " + value + ", " + step + ")",
            array.fill(b, count, value, step), model.fill(b, count, value, step));
    }

    void writeCrash(int b, int value, int point) {
        same("writeCrash(" + b + ", " + value + ", " + point + ")",
            array.writeCrash(b, value, point), model.writeCrash(b, value, point));
    }

    void begin() {
        same("begin()", array.begin(), model.begin());
    }

    void step() {
        same("step()", array.step(), model.step());
    }

    void stepCrash(int point) {
        same("stepCrash(" + point + ")", array.stepCrash(point), model.stepCrash(point));
    }

    void crash() {
        same("crash()", array.crash(), model.crash());
    }

    void mount() {
        same("mount()", array.mount(), model.mount());
    }

    void fail(int m) {
        same("fail(" + m + ")", array.fail(m), model.fail(m));
    }

    void replace() {
        same("replace()", array.replace(), model.replace());
    }

    void scrub() {
        same("scrub()", array.scrub(), model.scrub());
    }

    /** The seven answers that don't depend on blocks, so 7 of the 512 calls. */
    void state() {
        same("up()", array.up(), model.up());
        same("size()", array.size(), model.size());
        same("members()", array.members(), model.members());
        same("failed()", array.failed(), model.failed());
        same("growth()", array.growth(), model.growth());
        same("groups()", array.groups(), model.groups());
        same("scrub()", array.scrub(), model.scrub());
    }

    /** Reads every block and one on either side: 50 calls at the most. */
    void blocks() {
        for (int b = -1; b <= model.size(); b++) {
            read(b);
        }
    }

    int size() {
        return model.size();
    }

    int members() {
        return model.members();
    }
}
