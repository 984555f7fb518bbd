import java.lang.reflect.Field;

/**
 * Promise 29: isWell answers 0 where the two ways differ. No run of calls comes there, so the
 * fields inside are changed from here.
 */
public final class WellTests {
    private static int passed;
    private static int failed;

    private static Object field(Object holder, String name) throws ReflectiveOperationException {
        Field field = holder.getClass().getDeclaredField(name);
        field.setAccessible(true);
        return field.get(holder);
    }

    // The rope masks, or the round with this root.
    private static int[] ropes(FerryRounds x) throws ReflectiveOperationException {
        return (int[]) field(field(field(x, "river"), "ropes"), "numbers");
    }

    private static int[] round(FerryRounds x, int root) throws ReflectiveOperationException {
        return (int[]) field(((Object[]) field(field(x, "river"), "rounds"))[root], "numbers");
    }

    // The round 2-0-1-0-2, and the bank 3 alone.
    private static FerryRounds river() {
        FerryRounds x = new FerryRounds();
        for (int bank = 0; bank < 4; bank++) {
            x.bank(10 + bank);
        }
        x.join(0, 1);
        x.join(2, 0);
        return x;
    }

    private static void due(String name, FerryRounds x, int want) {
        int got = x.isWell();
        if (got == want) {
            passed++;
        } else {
            failed++;
            System.out.println(name + ": isWell() answered " + got + ", due is " + want);
        }
    }

    public static void main(String[] args) throws ReflectiveOperationException {
        due("as it is", river(), 1);

        FerryRounds x = river();
        ropes(x)[2] |= 8;
        ropes(x)[3] |= 4;
        due("a rope more, to another part", x, 0);

        x = river();
        ropes(x)[1] |= 4;
        ropes(x)[2] |= 2;
        due("a rope more, within the part", x, 0);

        x = river();
        ropes(x)[0] &= ~2;
        ropes(x)[1] &= ~1;
        due("a rope less", x, 0);

        x = river();
        round(x, 2)[2] = 2;
        due("a bank that its round has not", x, 0);

        x = river();
        int[] row = round(x, 2);
        row[1] = 1;
        row[2] = 0;
        row[3] = 1;
        due("a round over ropes that are not there", x, 0);

        x = river();
        round(x, 2)[3] = 1;
        due("a round that goes over a rope once", x, 0);

        x = river();
        System.arraycopy(new int[] {0, 1, 0, 2, 0}, 0, round(x, 2), 0, 5);
        due("a round that does not begin with its root", x, 0);

        x = new FerryRounds();
        for (int bank = 0; bank < 4; bank++) {
            x.bank(bank);
        }
        x.join(0, 3);
        x.join(0, 2);
        x.join(0, 1);
        due("a round over three ropes of one bank", x, 1);
        round(x, 0)[2] = 2;
        due("a bank that stands twice on end", x, 0);

        x = river();
        ropes(x)[3] = 8;
        due("a rope from a bank to itself", x, 0);

        x = new FerryRounds();
        x.bank(1);
        x.bank(2);
        ropes(x)[0] = 1;
        due("a rope from the first bank to itself", x, 0);

        System.out.println(passed + " passed, " + failed + " failed");
        System.exit(failed == 0 ? 0 : 1);
    }
}
