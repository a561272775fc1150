/** Promise 1: all four vectors of a new object are empty. */
public final class NewObjectTest {
    public static void main(String[] args) {
        Checks checks = new Checks();
        RunVectors x = new RunVectors();
        for (int vector = 0; vector < 4; vector++) {
            checks.due("length(" + vector + ")", x.length(vector), 0);
            checks.due("stretches(" + vector + ")", x.stretches(vector), 0);
            checks.due("sum(" + vector + ")", x.sum(vector), 0);
            checks.due("at(" + vector + ", 0)", x.at(vector, 0), 0);
            checks.due("find(" + vector + ", 0, 0)", x.find(vector, 0, 0), -1);
            checks.due("between(" + vector + ", MIN, MAX)", x.between(vector, Checks.MIN, Checks.MAX), 0);
            checks.due("compare(0, " + vector + ")", x.compare(0, vector), 0);
        }
        objectsShareNothing(checks);
        checks.end();
    }

    private static void objectsShareNothing(Checks checks) {
        RunVectors first = Checks.with(Checks.row(1, 2), Checks.row(3));
        RunVectors second = new RunVectors();
        checks.holds("a second object", second, Checks.row(), Checks.row(), Checks.row(), Checks.row());
        second.push(0, 9, 3);
        checks.holds("a push on another object", first, Checks.row(1, 2), Checks.row(3));
    }
}
