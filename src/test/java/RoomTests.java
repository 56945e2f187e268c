import java.lang.management.ManagementFactory;

/** All calls of a run share one room, so a call may make nothing anew: this counts what the dearest calls make. */
public final class RoomTests {
    private static final long MOST_FOR_AN_OBJECT = 64 * 1024;
    private static final long MOST_FOR_ALL_CALLS = 64 * 1024;

    private static long sink = 0;

    public static void main(String[] args) {
        var threads = (com.sun.management.ThreadMXBean) ManagementFactory.getThreadMXBean();
        if (!threads.isThreadAllocatedMemorySupported()) {
            System.out.println("this machine does not count what is made");
            return;
        }
        useOnce(new ComparatorNetworks());
        long self = Thread.currentThread().getId();
        long start = threads.getThreadAllocatedBytes(self);
        ComparatorNetworks x = new ComparatorNetworks();
        long made = threads.getThreadAllocatedBytes(self);
        for (int k = 0; k < 8; k++) {
            useOnce(x);
        }
        long used = threads.getThreadAllocatedBytes(self);
        System.out.println("an object takes " + (made - start) + " bytes, its calls " + (used - made));
        if (made - start > MOST_FOR_AN_OBJECT || used - made > MOST_FOR_ALL_CALLS) {
            System.out.println("that is too much");
            System.exit(1);
        }
        if (sink == 0) {
            System.out.println("the calls answered nothing");
            System.exit(1);
        }
    }

    private static void useOnce(ComparatorNetworks x) {
        sink += x.build(0, 8, 0);
        sink += x.build(1, 8, 3);
        sink += x.concatenate(1, 1, 2);
        sink += x.reduce(2);
        sink += x.prune(0);
        sink += x.standardize(0) + x.mirror(0);
        sink += x.reset(3, 8) + x.grow(3) + x.missing(3, 2);
        sink += x.candidate(3, 27, 0) + x.outputCount(3) + x.outputOf(3, 255);
        sink += x.countSorted(3) + x.firstUnsorted(3) + x.totalExchanges(3) + x.mostExchanges(3);
        sink += x.isSorter(3) + x.firstFailure(3) + x.isSelector(3, 3) + x.isMerger(3, 4) + x.isRedundant(3, 0);
        sink += x.sameOutputs(0, 3) + x.isIsomorphic(0, 3) + x.layer(0, 5) + x.depth(0);
        sink += x.reset(3, 6) + x.reset(2, 6) + x.add(2, 0, 1) + x.subsumes(3, 2);
        sink += x.reset(2, 2) + x.beside(3, 2, 1);
        sink += x.append('0') + x.append(':') + x.append('1') + x.parse(3) + x.clearText();
        sink += x.setKey(0, 9) + x.run(0) + x.result(0) + x.origin(0) + x.isStable();
        sink += x.place(0, 5, 0, 9) + x.blockSize(0, 8) + x.applyBlock(0, 2) + x.castBlock(0, 3) + x.discard(0);
        sink += x.insert(3, 0, 1, 2) + x.remove(3, 0) + x.undo();
        sink += x.wires(0) + x.size(0) + x.comparator(0, 0);
    }
}
