import java.lang.management.ManagementFactory;

/** All calls live in one room, so none but the constructor may make objects. */
final class RoomTest {
    private static final int ROUNDS = 400;

    private RoomTest() {
    }

    public static void main(String[] args) {
        com.sun.management.ThreadMXBean bean =
                (com.sun.management.ThreadMXBean) ManagementFactory.getThreadMXBean();
        ClauseDrafts x = new ClauseDrafts();
        int sum = round(x);
        long before = bean.getCurrentThreadAllocatedBytes();
        for (int i = 0; i < ROUNDS; i++) {
            sum += round(x);
        }
        long used = bean.getCurrentThreadAllocatedBytes() - before;
        // the asking itself and the machine's own work may cost a little, but not a round
        Check.holds("calls make no objects, " + used + " bytes", used < ROUNDS * 16);
        before = bean.getCurrentThreadAllocatedBytes();
        ClauseDrafts y = new ClauseDrafts();
        used = bean.getCurrentThreadAllocatedBytes() - before;
        Check.holds("an object is small, " + used + " bytes", used < 40_000 && y.count(0) + sum != 0);
        Check.finish();
    }

    /** Every method that changes something, and some that only ask. */
    private static int round(ClauseDrafts x) {
        int sum = 0;
        sum += x.feed('<') + x.feed('0') + x.feed('a') + x.feed(';') + x.feed('1') + x.feed('#');
        sum += x.feed('1') + x.feed(';') + x.feed('>') + x.feed('0') + x.feed('b') + x.feed(';');
        sum += x.text() + x.fault() + x.feed('<') + x.end(0) + x.head(3) + x.add(1, 0);
        sum += x.insert(1, 1, 0, 31) + x.write(1, 1, 0, 30) + x.swap(1, 0) + x.exchange();
        sum += x.keep(0) + x.keep(1) + x.sheet(0, 0, 20) + x.sheet(1, 1, 20) + x.lay(0, 0, 5);
        sum += x.paste(0, 0, 0, 0, 1) + x.erase(1, 0, 0) + x.choose(0, 1) + x.decide(1) + x.settle();
        sum += x.strike(0, 0) + x.back(0) + x.back(1) + x.between(0, 0) + x.shown(0, 1);
        return sum + x.find(1, 1, 0) + x.shownWord(1, 0, 0) + x.count(10) + x.leads(0, 0, 0);
    }
}
