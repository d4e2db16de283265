/** Boundary cases of promises 20 to 22: the day. */
public final class DayEdgeTest extends Edges {
    public static void main(String[] args) {
        runAll(DayEdgeTest.class);
    }

    /** So many boats in a row that can't leave, as there is no tide, till THE HOUR is the one that is told. */
    private static AbreastQuay rowAtHour(int lying, int hour) {
        AbreastQuay x = Given.row(lying, lying);
        due("no tide", x.tide(0), ALL_HOURS);
        if (hour > 0) {
            due("hours go by", x.run(hour), 0);
        }
        due("all hours", x.tide(ALL_HOURS), 0);
        due("THE HOUR", x.told(3), hour);
        return x;
    }

    // ---- promise 20: tide

    static void promise20EachOf24HoursAndNoneAndAll() {
        AbreastQuay x = new AbreastQuay();
        due("all, at first; none now", x.tide(0), ALL_HOURS);
        int was = 0;
        for (int hour = 0; hour < 24; hour++) {
            due("hour " + hour, x.tide(1 << hour), was);
            was = 1 << hour;
        }
        due("all", x.tide(ALL_HOURS), was);
        due("they were all", x.tide(1), ALL_HOURS);
    }

    static void promise20OtherHours() {
        for (int hours : setsWithOthersThan(24)) {
            refuses(BEYOND, NEW, "tide(" + hours + ")", x -> x.tide(hours));
            refuses(BEYOND, BUSY, "tide(" + hours + ")", x -> x.tide(hours));
        }
    }

    static void promise20WhatItWasIsNotTheRefusedOne() {
        AbreastQuay x = new AbreastQuay();
        due("some", x.tide(5), ALL_HOURS);
        due("hour 24", x.tide(1 << 24), BEYOND);
        due("what it was", x.tide(6), 5);
    }

    static void promise20BoatsLeaveAtEachHourOfTheTideAlone() {
        for (int hour = 0; hour < 24; hour++) {
            AbreastQuay x = Given.row(1, 1);
            due("one hour", x.tide(1 << hour), ALL_HOURS);
            if (hour > 0) {
                due("hours before " + hour, x.run(hour), 0);
            }
            due("LATE", x.of(0, 9), hour);
            due("hour " + hour, x.run(1), 1);
            due("LATE no more", x.of(0, 9), hour);
        }
    }

    // ---- promise 21: run

    static void promise21From1To24Hours() {
        for (int n = 1; n <= 24; n++) {
            AbreastQuay x = Given.row(2, 2);
            due("no tide", x.tide(0), ALL_HOURS);
            due("run(" + n + ")", x.run(n), 0);
            due("THE HOUR", x.told(3), n % 24);
            due("LATE", x.of(1, 9), n);
        }
        for (int n : outside(1, 24)) {
            refuses(BEYOND, NEW, "run(" + n + ")", x -> x.run(n));
            refuses(BEYOND, BUSY, "run(" + n + ")", x -> x.run(n));
        }
    }

    static void promise21Hour0IsBehind23() {
        for (int start = 0; start < 24; start++) {
            AbreastQuay x = rowAtHour(0, start);
            due("one hour", x.run(1), 0);
            due("THE HOUR", x.told(3), start == 23 ? 0 : start + 1);
            due("a day", x.run(24), 0);
            due("THE HOUR is the same", x.told(3), start == 23 ? 0 : start + 1);
        }
    }

    static void promise21ThroughTheNight() {
        AbreastQuay x = rowAtHour(1, 22);
        due("FIRST", x.leaves(0, 1, 23), 1);
        due("aboard at 1 alone", x.aboard(0, 1 << 1), ALL_HOURS);
        int late = x.of(0, 9);
        due("hours 22, 23, 0", x.run(3), 0);
        due("LATE at 22 and 23, not at 0", x.of(0, 9), late + 2);
        due("hour 1", x.run(1), 1);
        due("THE HOUR", x.told(3), 2);
    }

    static void promise21FirstIsNotAboveTheHour() {
        for (int first = 0; first < 24; first++) {
            AbreastQuay x = Given.row(1, 1);
            due("leaves", x.leaves(0, first, 23), 1);
            if (first > 0) {
                due("hours before " + first, x.run(first), 0);
            }
            due("not LATE", x.of(0, 9), 0);
            due("it lies", x.told(2), 1);
            due("hour " + first, x.run(1), 1);
            due("it lies nowhere", x.told(2), 0);
            due("it left in its hour, so it is not LATE", x.of(0, 9), 0);
        }
    }

    static void promise21LastIsNotAsked() {
        AbreastQuay x = rowAtHour(1, 5);
        due("LAST is over", x.leaves(0, 0, 0), 1);
        due("it leaves all the same", x.run(1), 1);
    }

    static void promise21CrewsAtEachHour() {
        for (int hour = 0; hour < 24; hour++) {
            AbreastQuay x = rowAtHour(1, hour);
            due("all hours but this", x.aboard(0, ALL_HOURS & ~(1 << hour)), ALL_HOURS);
            due("nobody is aboard", x.run(1), 0);
            AbreastQuay y = rowAtHour(1, hour);
            due("this hour alone", y.aboard(0, 1 << hour), ALL_HOURS);
            due("the crew is aboard", y.run(1), 1);
        }
    }

    /** One crew of six is away: those inside of it can't leave, those outside of it can. */
    static void promise21CrewsOutsideOfOne() {
        for (int away = 0; away < 6; away++) {
            AbreastQuay x = Given.row(6, 6);
            due("nobody is aboard", x.aboard(away, 0), ALL_HOURS);
            due("those outside of " + away, x.run(1), 5 - away);
            for (int i = 0; i < 6; i++) {
                due("place of " + i, x.of(i, 8), i <= away ? i : -1);
                due("LATE " + i, x.of(i, 9), i <= away ? 1 : 0);
            }
            due("nobody was moved", x.told(6), 0);
        }
    }

    /** One of six may leave, and all crews are aboard: those outside of it are moved. */
    static void promise21ThoseOutsideAreMoved() {
        for (int which = 0; which < 6; which++) {
            AbreastQuay x = Given.row(6, 6);
            for (int i = 0; i < 6; i++) {
                due("leaves", x.leaves(i, i == which ? 0 : 1, 23), 1);
            }
            due("one leaves", x.run(1), 1);
            due("it lies nowhere", x.of(which, 7), -1);
            due("moved ever", x.told(6), 5 - which);
            for (int i = which + 1; i < 6; i++) {
                due("place of " + i, x.of(i, 8), i - 1);
                due("how often " + i + " was moved", x.of(i, 10), 1);
            }
            due("nobody is LATE", x.of(0, 9) + x.of(5, 9), 0);
        }
    }

    static void promise21AllOfEightLeaveInAnHour() {
        AbreastQuay x = Given.wide(4, 8);
        for (int i = 0; i < 8; i++) {
            due("comes", x.comes(i, i / 6), i % 6);
        }
        due("all of them", x.run(1), 8);
        due("from the outside, so nobody is moved", x.told(6), 0);
        due("none lies", x.told(2), 0);
        due("none is left to leave", x.run(24), 0);
    }

    static void promise21NothingLies() {
        AbreastQuay x = Given.wide(1, 8);
        due("a day", x.run(24), 0);
        for (int i = 0; i < 8; i++) {
            due("not LATE, it lies nowhere", x.of(i, 9), 0);
        }
        due("a day without BOATS", new AbreastQuay().run(24), 0);
    }

    /** 0 has two outside of it, 3 has one: were 0 to leave first, those outside would be moved otherwise. */
    static void promise21TheFewestOutsideLeavesFirst() {
        AbreastQuay x = Given.wide(2, 5);
        due("0, 1, 2 at BERTH 0", x.comes(0, 0) * 100 + x.comes(1, 0) * 10 + x.comes(2, 0), 12);
        due("3, 4 at BERTH 1", x.comes(3, 1) * 10 + x.comes(4, 1), 1);
        due("2 and 4 leave later", x.leaves(2, 1, 23) + x.leaves(4, 1, 23), 2);
        due("1 and 3 first, then 0", x.run(1), 3);
        due("1 was not moved for 0", x.of(1, 10), 0);
        due("2 was moved for 1 and for 0", x.of(2, 10), 2);
        due("4 was moved for 3", x.of(4, 10), 1);
    }

    /**
     * Which of several leaves first can be seen at one BERTH alone, where no two have as many outside: boats of
     * several BERTHS do not move one another. So the least of like ones has no test that could fail.
     */
    static void promise21FewestBeforeTheLeast() {
        AbreastQuay x = Given.row(2, 2);
        due("both", x.run(1), 2);
        due("1 left before 0, though 0 is the lesser", x.of(1, 10), 0);
        AbreastQuay y = Given.wide(1, 2);
        due("the greater one inside", y.comes(1, 0) * 10 + y.comes(0, 0), 1);
        due("both", y.run(1), 2);
        due("0 left before 1", y.of(0, 10), 0);
    }

    static void promise21AgainAndAgain() {
        AbreastQuay x = Given.row(3, 3);
        due("the outermost stays for its hour", x.leaves(2, 1, 23), 1);
        due("its crew is aboard at 0 alone", x.aboard(2, 1), ALL_HOURS);
        due("two leave, one behind the other", x.run(1), 2);
        due("moved twice", x.of(2, 10), 2);
        due("at the quay", x.of(2, 8), 0);
        due("a day without its crew", x.run(23), 0);
        due("LATE from 1 to 23", x.of(2, 9), 23);
        due("hour 0: FIRST is above", x.run(1), 0);
        due("not LATE then", x.of(2, 9), 23);
    }

    static void promise21LateWithoutTideToo() {
        AbreastQuay x = Given.row(2, 3);
        due("no tide", x.tide(0), ALL_HOURS);
        due("FIRST 23", x.leaves(1, 23, 23), 1);
        due("a day", x.run(24), 0);
        due("LATE a day", x.of(0, 9), 24);
        due("LATE at 23 alone", x.of(1, 9), 1);
        due("not LATE, it lies nowhere", x.of(2, 9), 0);
        due("two days more", x.run(24) + x.run(24), 0);
        due("LATE three days", x.of(0, 9), 72);
    }

    static void promise21ThoseMovedNeedNotLieRight() {
        AbreastQuay x = new AbreastQuay();
        due("berth", x.berth(10, 9, 2, 0), 0);
        due("flat", x.boat(BOAT, 10, 0, false), 0);
        due("deep", x.boat(BOAT, 10, 19, false), 1);
        due("they come", x.comes(0, 0) * 10 + x.comes(1, 0), 1);
        due("the deep one leaves later", x.leaves(1, 5, 5), 1);
        due("the flat one", x.run(1), 1);
        due("the deep one lies at the quay", x.at(0, 0), 1);
        due("not right", x.fault(0), 0);
        due("and leaves from there", x.run(5), 1);
    }

    static void promise21HoursOfARunAreDoneOneByOne() {
        for (int n = 1; n <= 24; n++) {
            AbreastQuay once = dayOfSix();
            AbreastQuay byHours = dayOfSix();
            int left = 0;
            for (int i = 0; i < n; i++) {
                left += byHours.run(1);
            }
            due("run(" + n + ")", once.run(n), left);
            Check.holds(n + " hours at once as one by one", Given.everythingOf(once).equals(Given.everythingOf(byHours)));
        }
    }

    private static AbreastQuay dayOfSix() {
        AbreastQuay x = Given.row(6, 6);
        for (int i = 0; i < 6; i++) {
            due("leaves", x.leaves(i, 4 * (i * 5 % 6), 23), 1);
            due("aboard", x.aboard(i, 0xAAAAAA | 0xFFF << 2 * i), ALL_HOURS);
        }
        due("tide", x.tide(0xF0F0F3), ALL_HOURS);
        return x;
    }

    // ---- promise 22: could

    static void promise22HowManyWouldBeMovedFromEachPlace() {
        for (int place = 0; place < 6; place++) {
            int p = place;
            onlyTells(5 - place, () -> Given.row(6, 6), "could(" + place + ")", x -> x.could(p));
        }
        onlyTells(0, () -> Given.row(1, 1), "one alone", x -> x.could(0));
    }

    static void promise22ACrewThatIsNotAboardIsNoFinding() {
        for (int away = 0; away < 6; away++) {
            for (int boat = 0; boat < 6; boat++) {
                int a = away;
                int b = boat;
                onlyTells(boat <= away ? -1 : 5 - boat, () -> {
                    AbreastQuay x = Given.row(6, 6);
                    due("away", x.aboard(a, 0), ALL_HOURS);
                    return x;
                }, "could(" + boat + "), " + away + " being away", x -> x.could(b));
            }
        }
    }

    static void promise22CrewsAtEachHour() {
        for (int hour = 0; hour < 24; hour++) {
            AbreastQuay x = rowAtHour(2, hour);
            due("the outer crew, all hours but this", x.aboard(1, ALL_HOURS & ~(1 << hour)), ALL_HOURS);
            due("the outer one", x.could(1), -1);
            due("the inner one", x.could(0), -1);
            due("the outer crew, this hour alone", x.aboard(1, 1 << hour), ALL_HOURS & ~(1 << hour));
            due("the outer one", x.could(1), 0);
            due("the inner one", x.could(0), 1);
        }
    }

    static void promise22FirstAndTheTideAreNotAsked() {
        AbreastQuay x = Given.row(2, 2);
        due("FIRST is above THE HOUR", x.leaves(0, 23, 23), 1);
        due("no tide", x.tide(0), ALL_HOURS);
        due("could", x.could(0), 1);
    }

    static void promise22OtherBerthsAreNotAsked() {
        AbreastQuay x = Given.wide(2, 4);
        due("two and two", x.comes(0, 0) + x.comes(1, 0) + x.comes(2, 1) + x.comes(3, 1), 2);
        due("a crew at the other BERTH is away", x.aboard(3, 0), ALL_HOURS);
        due("could", x.could(0), 1);
        due("could not", x.could(2), -1);
    }

    static void promise22ItLiesNowhere() {
        refuses(STATE, BUSY, "one that has left", x -> x.could(4));
        refuses(STATE, BUSY, "one that never came", x -> x.could(6));
        refuses(STATE, () -> {
            AbreastQuay x = Given.wide(1, 1);
            due("nobody is aboard", x.aboard(0, 0), ALL_HOURS);
            return x;
        }, "STATE, whoever is aboard", x -> x.could(0));
    }

    static void promise22NoSuchBoat() {
        for (int boat : noneOf(Given.BUSY_BOATS)) {
            refuses(BEYOND, BUSY, "could(" + boat + ")", x -> x.could(boat));
        }
        for (int boat : noneOf(8)) {
            refuses(BEYOND, CRAMMED, "could(" + boat + ")", x -> x.could(boat));
        }
    }
}
