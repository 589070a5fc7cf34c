/** Promises 22 to 31: what is best, winds that drop. */
public final class BestTest {
    private static final Check CHECK = new Check("BestTest");
    private static final int NONE = FlotsamWill.NONE, BAD = FlotsamWill.BAD, STATE = FlotsamWill.STATE;

    public static void main(String[] args) {
        p22When();
        p22WhenFirstAndLast();
        p23Aim();
        p24Ways();
        p25Place();
        p26Hook();
        p27Fire();
        p28Moon();
        p29Rest();
        p29RestOfMany();
        p29RestNone();
        p30Luck();
        p30OfEightWinds();
        p31Mean();
        nothingIsChanged();
        CHECK.finish();
    }

    private static void p22When() {
        // Put in at HOUR 0 it swings between Y 1 and 4; at 1 it is ASHORE in HOUR 5, at 3 in 3.
        FlotsamWill x = CHECK.told("bottle 4 1 20 7;heir 4 0 23 0;heir 4 3 3 1;heir 5 0 23 0;heir 6 0 2 9;");
        CHECK.due("when, at any hour", x.when(0, 0), 1);
        CHECK.due("when, the earlier and nearest is another", x.when(0, 1), NONE);
        CHECK.due("when, out of reach", x.when(0, 2), NONE);
        CHECK.due("when, gone too soon", x.when(0, 3), NONE);
        CHECK.due("stand", x.stand(0, 1, 4), 0);
        CHECK.due("when, in HOUR 3", x.when(0, 1), 3);
        CHECK.due("stand", x.stand(0, 1, 23), 4);
        CHECK.due("when, he is there in the last HOUR", x.when(0, 0), 1);
        CHECK.due("alter", x.alter(0, 2, 6), 1);
        CHECK.due("phase", x.phase(5), 0);
        CHECK.due("when, too far out", x.when(0, 0), NONE);
        CHECK.due("the HOUR is as it was", x.tub(0, 3), 20);
        CHECK.due("when -1 0", x.when(-1, 0), BAD);
        CHECK.due("when 1 0", x.when(1, 0), BAD);
        CHECK.due("when 0 -1", x.when(0, -1), BAD);
        CHECK.due("when 0 4", x.when(0, 4), BAD);
    }

    private static void p22WhenFirstAndLast() {
        FlotsamWill x = CHECK.told("bottle 4 1 20 7;heir 4 0 23 0;phase 3;");
        CHECK.due("when, in HOUR 0", x.when(0, 0), 0);
        CHECK.tell(x, "bottle 4 1 20 7;heir 4 23 23 0;heir 4 0 22 0;phase 4;");
        CHECK.due("when, in HOUR 23", x.when(0, 0), 23);
    }

    private static void p23Aim() {
        FlotsamWill x = CHECK.told("bottle 9 9 3 7;heir 4 0 4 0;heir 9 5 5 5;heir 9 0 2 9;");
        CHECK.due("aim at its PLACE", x.aim(0, 0), 41);
        CHECK.due("aim at what heir 0 has not", x.aim(0, 1), 43);
        CHECK.due("aim, gone too soon", x.aim(0, 2), NONE);
        CHECK.due("set", x.set(1, 4), 2);
        CHECK.due("aim by the CURRENT", x.aim(0, 0), 21);
        CHECK.due("stand", x.stand(0, 0, 0), 4);
        CHECK.due("aim, carried past", x.aim(0, 0), NONE);
        CHECK.due("where it is put in is as it was", x.tub(0, 1) * 10 + x.tub(0, 2), 99);
        CHECK.due("stand", x.stand(0, 0, 9), 0);
        CHECK.due("set", x.set(1, 2), 4);
        CHECK.due("aim at the last PLACE", x.aim(0, 0), 91);
        CHECK.tell(x, "coop 5 5 3 1;wind 3 1;wind 4 1;wind 5 1;heir 0 5 23 9;heir 0 4 4 9;heir 0 3 3 9;");
        CHECK.due("aim nearest the shore", x.aim(0, 2), 1);
        CHECK.due("aim behind that", x.aim(0, 1), 5);
        CHECK.due("aim farthest out", x.aim(0, 0), 9);
        CHECK.due("aim -1 0", x.aim(-1, 0), BAD);
        CHECK.due("aim 1 0", x.aim(1, 0), BAD);
        CHECK.due("aim 0 -1", x.aim(0, -1), BAD);
        CHECK.due("aim 0 3", x.aim(0, 3), BAD);
    }

    private static void p24Ways() {
        FlotsamWill x = CHECK.told("bottle 9 9 3 7;heir 4 0 23 0;");
        int[] atThree = {60, 3, 27, 0};
        for (int way = 0; way <= 3; way++) CHECK.due("ways " + way + " at 3", x.ways(0, way), atThree[way]);
        CHECK.due("alter", x.alter(0, 3, 0), 3);
        int[] atZero = {60, 0, 0, 30};
        for (int way = 0; way <= 3; way++) CHECK.due("ways " + way + " at 0", x.ways(0, way), atZero[way]);
        CHECK.due("ways -1 0", x.ways(-1, 0), BAD);
        CHECK.due("ways 1 0", x.ways(1, 0), BAD);
        CHECK.due("ways 0 -1", x.ways(0, -1), BAD);
        CHECK.due("ways 0 4", x.ways(0, 4), BAD);
    }

    private static void p25Place() {
        FlotsamWill x = CHECK.told("bottle 2 1 3 5;bottle 7 1 3 6;heir 0 0 23 0;heir 9 0 2 9;");
        CHECK.due("place of the dearer", x.place(0, 0), 7);
        CHECK.due("how much", x.place(0, 1), 6);
        CHECK.due("stand", x.stand(0, 3, 3), 0);
        CHECK.due("the first place of both", x.place(0, 0), 4);
        CHECK.due("both", x.place(0, 1), 11);
        CHECK.due("place of one who has nothing", x.place(1, 0), 0);
        CHECK.due("nothing", x.place(1, 1), 0);
        CHECK.due("the PLACE is as it was", x.heir(1, 0), 9);
        CHECK.due("place -1", x.place(-1, 0), BAD);
        CHECK.due("place 2", x.place(2, 0), BAD);
        CHECK.due("what -1", x.place(0, -1), BAD);
        CHECK.due("what 2", x.place(0, 2), BAD);
        CHECK.tell(x, "bottle 0 1 3 5;bottle 9 1 3 6;heir 5 0 23 0;");
        CHECK.due("the last place", x.place(0, 0), 9);
        CHECK.due("the last place, how much", x.place(0, 1), 6);
    }

    private static void p26Hook() {
        FlotsamWill x = CHECK.told("bottle 2 1 3 5;bottle 7 1 3 6;heir 3 0 23 9;");
        int[] v = {1, 5, 6, 11, 12, 400};
        int[] want = {1, 1, 4, 4, NONE, NONE};
        for (int n = 0; n < v.length; n++) CHECK.due("hook for " + v[n], x.hook(0, v[n]), want[n]);
        CHECK.due("stand", x.stand(0, 0, 7), 3);
        CHECK.due("hook 0 is enough", x.hook(0, 6), 0);
        CHECK.due("the HOOK is as it was", x.heir(0, 3), 9);
        CHECK.due("hook -1", x.hook(-1, 1), BAD);
        CHECK.due("hook 1", x.hook(1, 1), BAD);
        CHECK.due("v 0", x.hook(0, 0), BAD);
        CHECK.due("v 401", x.hook(0, 401), BAD);
        CHECK.tell(x, "bottle 0 1 3 5;heir 9 0 23 0;");
        CHECK.due("hook 9", x.hook(0, 5), 9);
    }

    private static void p27Fire() {
        FlotsamWill x = CHECK.told("tub 4 2 3 9;heir 4 0 3 0;wind 3 3;");
        CHECK.due("wind in instead", x.fire(0, 0), 31);
        CHECK.due("how much", x.fire(0, 1), 9);
        CHECK.due("the WIND is as it was", x.wind(3), 3);
        CHECK.due("blow", x.blow(3, 1), 3);
        CHECK.due("no more than as it is", x.fire(0, 0), NONE);
        CHECK.due("nor how much", x.fire(0, 1), NONE);
        CHECK.tell(x, "tub 4 1 3 9;tub 4 1 23 20;heir 5 0 23 0;");
        CHECK.due("the better of two", x.fire(0, 0), 232);
        CHECK.due("the better, how much", x.fire(0, 1), 20);
        CHECK.due("alter", x.alter(1, 4, 9), 20);
        CHECK.due("of two alike the least", x.fire(0, 0), 32);
        CHECK.due("alter", x.alter(0, 3, 0), 3);
        CHECK.due("phase", x.phase(3), 0);
        CHECK.due("by HOUR 0", x.fire(0, 0), 2);
        CHECK.tell(x, "tub 4 3 3 9;tub 4 2 4 9;heir 5 0 23 0;");
        CHECK.due("one wind for two", x.fire(0, 0), 42);
        CHECK.due("one wind for two, how much", x.fire(0, 1), 18);
        // Were there no wind, he had it; but to tell that there is none is not asked.
        CHECK.tell(x, "coop 1 3 3 9;current 2 3;heir 2 0 23 0;wind 3 4;");
        CHECK.due("no wind that helps", x.fire(0, 0), NONE);
        CHECK.due("blow", x.blow(3, 0), 4);
        CHECK.due("without one he has it", x.has(0, 0), 9);
        CHECK.due("fire -1", x.fire(-1, 0), BAD);
        CHECK.due("fire 1", x.fire(1, 0), BAD);
        CHECK.due("what -1", x.fire(0, -1), BAD);
        CHECK.due("what 2", x.fire(0, 2), BAD);
    }

    private static void p28Moon() {
        FlotsamWill x = CHECK.told("bottle 4 1 0 9;heir 4 0 23 0;phase 5;");
        CHECK.due("moon", x.moon(0), 1);
        CHECK.due("how much", x.moon(1), 9);
        CHECK.due("PHASE is as it was", x.rule(2), 5);
        CHECK.due("stand", x.stand(0, 2, 0), 23);
        CHECK.due("moon for HOUR 0", x.moon(0), 3);
        CHECK.due("stand", x.stand(0, 3, 0), 0);
        CHECK.due("alter", x.alter(0, 1, 5), 4);
        CHECK.due("moon for nothing", x.moon(0), 0);
        CHECK.due("nothing", x.moon(1), 0);
        CHECK.due("moon -1", x.moon(-1), BAD);
        CHECK.due("moon 2", x.moon(2), BAD);
        CHECK.tell(x, "bottle 4 1 0 9;bottle 9 1 20 50;heir 4 0 23 5;");
        CHECK.due("the dearer moon", x.moon(0), 1);
        CHECK.due("the dearer, how much", x.moon(1), 59);
    }

    private static void p29Rest() {
        // Of two alike the first has it, so heir 0 goes to the tub and heir 1 is free.
        FlotsamWill x = CHECK.told("bottle 4 1 3 9;heir 0 0 23 0;heir 9 0 23 0;");
        CHECK.due("pairs", x.rest(0, 1, 0), 10);
        CHECK.due("the least", x.rest(0, 1, 1), 40);
        CHECK.due("pairs the other way", x.rest(1, 0, 0), 10);
        CHECK.due("the least the other way", x.rest(1, 0, 1), 4);
        CHECK.due("alter", x.alter(0, 2, 9), 1);
        CHECK.due("pairs of nothing", x.rest(0, 1, 0), 100);
        CHECK.due("the least of nothing", x.rest(0, 1, 1), 0);
        CHECK.due("PLACES are as they were", x.heir(0, 0) + 10 * x.heir(1, 0), 90);
        CHECK.due("rest 0 0", x.rest(0, 0, 0), BAD);
        CHECK.due("rest -1 0", x.rest(-1, 0, 0), BAD);
        CHECK.due("rest 2 0", x.rest(2, 0, 0), BAD);
        CHECK.due("rest 0 -1", x.rest(0, -1, 0), BAD);
        CHECK.due("rest 0 2", x.rest(0, 2, 0), BAD);
        CHECK.due("what -1", x.rest(0, 1, -1), BAD);
        CHECK.due("what 2", x.rest(0, 1, 2), BAD);
    }

    private static void p29RestOfMany() {
        FlotsamWill x = CHECK.told("bottle 0 1 3 9;heir 5 0 23 0;heir 9 0 23 0;");
        CHECK.due("at PLACE 0", x.rest(0, 1, 1), 0);
        CHECK.due("pairs at PLACE 0", x.rest(0, 1, 0), 10);
        CHECK.due("pairs at PLACE 0 the other way", x.rest(1, 0, 0), 10);
        CHECK.tell(x, "bottle 0 1 3 5;bottle 9 1 3 5;heir 5 0 23 0;heir 5 0 23 0;");
        CHECK.due("one each", x.rest(0, 1, 0), 2);
        CHECK.due("the first of these", x.rest(0, 1, 1), 9);
        CHECK.tell(x, "bottle 0 1 3 5;bottle 9 1 3 5;bottle 0 1 4 1;bottle 9 1 5 1;"
            + "heir 5 0 23 0;heir 5 0 23 0;heir 5 3 23 9;heir 5 0 2 9;");
        CHECK.due("one each, with four tubs", x.rest(1, 0, 0), 2);
        CHECK.due("the third reaches all, and is the nearest nowhere", x.rest(2, 3, 0), 100);
        CHECK.due("place with four tubs", x.place(0, 0), 0);
        CHECK.due("hook with four tubs", x.hook(1, 6), 4);
        CHECK.due("hook of the third", x.hook(2, 12), 5);
    }

    private static void p29RestNone() {
        // Heir 0 wants to stand where heir 1 stands, heir 1 wants to stand where heir 0 does not.
        FlotsamWill x = CHECK.told("bottle 7 1 3 8;bottle 8 1 3 3;heir 0 4 9 1;heir 0 4 9 0;");
        CHECK.due("no pairs", x.rest(0, 1, 0), 0);
        CHECK.due("no least", x.rest(0, 1, 1), NONE);
    }

    private static void fraction(String call, long above, long below, long wantAbove, long wantBelow) {
        CHECK.due(call + ", numerator", above, wantAbove);
        CHECK.due(call + ", denominator", below, wantBelow);
    }

    private static void lucky(FlotsamWill x, int v, int t, int i, long above, long below) {
        fraction("luck " + v + " " + t + " " + i, x.luck(v, t, i, 0), x.luck(v, t, i, 1), above, below);
    }

    private static void p30Luck() {
        FlotsamWill x = CHECK.told("tub 4 2 3 9;heir 4 0 3 0;wind 3 1;wind 20 2;");
        lucky(x, 3, 0, 0, 7, 10);
        lucky(x, 4, 0, 0, 3, 5);
        lucky(x, 5, 0, 0, 1, 2);
        lucky(x, 0, 0, 0, 1, 1);
        lucky(x, 10, 0, 0, 0, 1);
        CHECK.due("the WIND is as it was", x.wind(3), 1);
        CHECK.due("blow", x.blow(3, 3), 1);
        lucky(x, 3, 0, 0, 0, 1);
        // Both winds are to stay, or both are to drop: 0.8 * 0.8 + 0.2 * 0.2.
        CHECK.tell(x, "tub 4 1 23 9;heir 4 0 23 0;wind 23 2;tub 4 2 4 1;wind 4 2;wind 5 4;");
        lucky(x, 2, 1, 0, 17, 25);
        lucky(x, 2, 0, 0, 1, 5);
        CHECK.due("v -1", x.luck(-1, 0, 0, 0), BAD);
        CHECK.due("v 11", x.luck(11, 0, 0, 0), BAD);
        CHECK.due("tub -1", x.luck(1, -1, 0, 0), BAD);
        CHECK.due("tub 2", x.luck(1, 2, 0, 0), BAD);
        CHECK.due("heir -1", x.luck(1, 0, -1, 0), BAD);
        CHECK.due("heir 1", x.luck(1, 0, 1, 0), BAD);
        CHECK.due("what -1", x.luck(1, 0, 0, -1), BAD);
        CHECK.due("what 2", x.luck(1, 0, 0, 2), BAD);
    }

    private static void p30OfEightWinds() {
        // Hooked unless the WIND of HOUR 3 stays and carries it away; the other seven do nothing to it.
        FlotsamWill x = CHECK.told("tub 4 1 3 90;heir 4 0 23 0;wind 3 2;");
        for (int hour = 10; hour < 17; hour++) CHECK.due("blow", x.blow(hour, 1), 0);
        lucky(x, 1, 0, 0, 1, 10);
        fraction("mean 1", x.mean(1, 0, 0), x.mean(1, 0, 1), 9, 1);
        CHECK.due("the ninth", x.blow(17, 1), 0);
        CHECK.due("luck of nine", x.luck(1, 0, 0, 0), STATE);
        CHECK.due("mean of nine", x.mean(1, 0, 0), STATE);
        CHECK.due("luck of nine, BAD", x.luck(1, 0, 1, 0), BAD);
        CHECK.due("mean of nine, BAD", x.mean(1, 1, 0), BAD);
        // All eight are to stay, seven to carry it along and the last to bring it in: 0.9 to the 8th.
        CHECK.tell(x, "tub 0 2 7 99;heir 7 0 23 0;");
        for (int hour = 10; hour < 18; hour++) CHECK.due("blow", x.blow(hour, hour < 17 ? 2 : 1), 0);
        CHECK.due("adrift in between", x.where(0, 17, 2), 0);
        CHECK.due("hooked", x.where(0, 18, 2), 1);
        lucky(x, 1, 0, 0, 43046721, 100000000);
        fraction("mean 1 of 99", x.mean(1, 0, 0), x.mean(1, 0, 1), 99L * 43046721, 100000000);
    }

    private static void p31Mean() {
        FlotsamWill x = CHECK.told("tub 4 2 3 9;tub 4 1 3 20;heir 4 0 3 0;wind 3 1;heir 9 0 2 9;");
        // Tub 1 is his in any case; tub 0 by 7 out of ten.
        fraction("mean 3", x.mean(3, 0, 0), x.mean(3, 0, 1), 263, 10);
        fraction("mean 5", x.mean(5, 0, 0), x.mean(5, 0, 1), 49, 2);
        fraction("mean 0", x.mean(0, 0, 0), x.mean(0, 0, 1), 29, 1);
        fraction("mean 10", x.mean(10, 0, 0), x.mean(10, 0, 1), 20, 1);
        fraction("mean of nothing", x.mean(5, 1, 0), x.mean(5, 1, 1), 0, 1);
        CHECK.due("v -1", x.mean(-1, 0, 0), BAD);
        CHECK.due("v 11", x.mean(11, 0, 0), BAD);
        CHECK.due("heir -1", x.mean(1, -1, 0), BAD);
        CHECK.due("heir 2", x.mean(1, 2, 0), BAD);
        CHECK.due("what -1", x.mean(1, 0, -1), BAD);
        CHECK.due("what 2", x.mean(1, 0, 2), BAD);
        CHECK.tell(x, "tub 4 1 3 1;heir 4 0 23 0;wind 3 2;");
        fraction("mean of one wind", x.mean(4, 0, 0), x.mean(4, 0, 1), 2, 5);
        fraction("mean of one wind, by odds", x.mean(7, 0, 0), x.mean(7, 0, 1), 7, 10);
        CHECK.tell(x, "bottle 4 1 3 7;heir 4 0 23 0;");
        fraction("mean of no winds", x.mean(5, 0, 0), x.mean(5, 0, 1), 7, 1);
    }

    private static void nothingIsChanged() {
        FlotsamWill x = CHECK.told("tub 4 2 3 9;coop 1 3 3 20;heir 4 0 3 1;heir 2 4 9 3;wind 3 1;current 2 1;phase 2;");
        FlotsamWill y = CHECK.told("tub 4 2 3 9;coop 1 3 3 20;heir 4 0 3 1;heir 2 4 9 3;wind 3 1;current 2 1;phase 2;");
        x.when(1, 0);
        x.aim(1, 1);
        x.ways(0, 1);
        x.place(1, 0);
        x.hook(1, 400);
        x.fire(1, 0);
        x.moon(0);
        x.rest(0, 1, 0);
        x.luck(5, 1, 1, 0);
        x.mean(5, 1, 0);
        x.kinds(1);
        x.sets(3);
        x.look(1, 0);
        x.drift(1, 9, 0);
        for (int what = 0; what <= 4; what++) {
            CHECK.due("rule", x.rule(what), y.rule(what));
            for (int t = 0; t <= 1; t++) CHECK.due("tub", x.tub(t, what), y.tub(t, what));
            for (int i = 0; i <= 1; i++) CHECK.due("heir", x.heir(i, what), y.heir(i, what));
        }
        for (int row = 0; row <= 9; row++) CHECK.due("current", x.current(row), y.current(row));
        for (int hour = 0; hour <= 23; hour++) CHECK.due("wind", x.wind(hour), y.wind(hour));
    }
}
