/** Each sentence of the document that names a boundary case, at the boundary, one below it and one above it. */
public final class SoapDeedsEdges {
    public static void main(String[] args) throws Exception {
        Sheet sheet = new Sheet();
        new EdgesOfTexts(sheet).run();
        new EdgesOfSums(sheet).run();
        new EdgesOfFaults(sheet).run();
        new EdgesOfSeconds(sheet).run();
        new EdgesOfAhead(sheet).run();
        new EdgesOfParts(sheet).run();
        new EdgesOfForesight(sheet).run();
        new EdgesOfActs(sheet).run();
        new EdgesOfImages(sheet).run();
        sheet.end();
    }
}
